import java.io.IOException;
import java.lang.reflect.Method;
import java.lang.reflect.Modifier;
import java.nio.file.Files;
import java.nio.file.Path;
import java.util.ArrayList;
import java.util.List;
import java.util.Set;
import java.util.TreeSet;
import java.util.regex.Matcher;
import java.util.regex.Pattern;

/** What README.md says of the class: its example's answers, its items of a text, its lists of calls and tests. */
public final class ReadmeTest extends Checks {
    private static String readme;

    /** The calls of the example with the answers that stand behind them, as "call = answer". */
    private static List<String> told() {
        List<String> lines = new ArrayList<>();
        Matcher m = Pattern.compile("(?m)^(?:int \\w+ = )?x\\.(.*); +// (-?\\d+):").matcher(readme);
        while (m.find()) {
            lines.add(m.group(1) + " = " + m.group(2));
        }
        return lines;
    }

    private static void example() {
        NameScopes x = new NameScopes();
        int inner = x.addScope(0);
        int d = x.declare(0, 0, true);
        int u = x.use(inner, 0);
        List<String> answers = new ArrayList<>(List.of(
            "addScope(0) = " + inner, "declare(0, 0, true) = " + d, "use(inner, 0) = " + u));
        answers.add("used(u, 2) = " + x.used(u, 2));
        answers.add("declare(inner, 1, false) = " + x.declare(inner, 1, false));
        NameScopes y = made("A^,A.a,B?a,B-b");
        holds("the text is in README.md", readme.contains("`A^,A.a,B?a,B-b`"));
        holds("the text tells the same", everything(x) == everything(y));
        answers.add("rename(d, 1) = " + x.rename(d, 1));
        answers.add("freeName(d) = " + x.freeName(d));
        answers.add("rename(d, 2) = " + x.rename(d, 2));
        answers.add("used(u, 1) = " + x.used(u, 1));
        holds("README.md tells " + told() + ", due is " + answers, told().equals(answers));
    }

    private static void items() {
        Matcher m = Pattern.compile("(?m)^\\| `(A[^`]*)` \\|").matcher(readme);
        int found = 0;
        while (m.find()) {
            NameScopes x = made("A^");
            put(x, m.group(1));
            is("the item " + m.group(1), x.load(), 1);
            found++;
        }
        is("items", found, 9);
    }

    private static void calls() {
        Set<String> due = new TreeSet<>();
        for (Method method : NameScopes.class.getDeclaredMethods()) {
            if (Modifier.isPublic(method.getModifiers())) {
                due.add(method.getName());
            }
        }
        int start = readme.indexOf("Which call is for what:");
        int end = readme.indexOf("`NONE`");
        holds("README.md has a list of calls", start >= 0 && start < end);
        Set<String> listed = new TreeSet<>();
        Matcher m = Pattern.compile("`(\\w+)`").matcher(readme.substring(Math.max(0, start), Math.max(0, end)));
        while (m.find()) {
            listed.add(m.group(1));
        }
        holds("README.md lists " + listed + ", due is " + due, listed.equals(due));
    }

    private static void tests() throws IOException {
        try (var files = Files.list(Path.of("src/test/java"))) {
            for (Path file : files.toList()) {
                String name = file.getFileName().toString().replace(".java", "");
                holds("README.md names " + name, readme.contains("`" + name + "`"));
            }
        }
    }

    public static void main(String[] args) throws IOException {
        readme = Files.readString(Path.of("README.md"));
        example();
        items();
        calls();
        tests();
        end();
    }
}
