import java.io.IOException;
import java.lang.reflect.Constructor;
import java.lang.reflect.Field;
import java.lang.reflect.Method;
import java.lang.reflect.Modifier;
import java.nio.file.Files;
import java.nio.file.Path;
import java.util.ArrayList;
import java.util.List;
import java.util.Set;
import java.util.TreeSet;
import java.util.regex.Matcher;
import java.util.regex.Pattern;

/** The face is the document's and no more, and the source keeps to those rules of the language that can be seen in its text. */
public final class FaceTest {
    private static final Path SOURCE = Path.of("src/main/java/NameScopes.java");
    private static final Path DOCUMENT = Path.of("../shared/DOC.md");

    private static final String[] FORBIDDEN = {
        "\\bfinally\\b", "\\bsynchronized\\b", "\\bassert\\b", "->", "::", "\\bcatch\\b", "\\bpackage\\b", "\\bDouble\\b",
        "\\bSystem\\.(?!arraycopy)", "\\bMath\\.\\w*Exact", "\\bRandom\\b", "\\bThread\\b", "\\bstatic\\s*\\{",
        "import (?!java\\.util\\.Arrays;)", "\\bequals\\(", "\\bhashCode\\(", "\\btoString\\(", "\\bprotected\\b"};

    private static int wrong = 0;

    private static void need(boolean fine, String what) {
        if (!fine) {
            wrong++;
            System.out.println(what);
        }
    }

    /** A member as a line of the document tells it, without its parameters' names. */
    private static String told(String line) {
        return line.replaceAll("\\b(int|boolean) \\w+(?=[,)])", "$1").replaceAll("\\s+", " ").replace(";", "").trim();
    }

    private static Set<String> documented() throws IOException {
        Set<String> lines = new TreeSet<>();
        Matcher face = Pattern.compile("```java\n(.*?)```", Pattern.DOTALL).matcher(Files.readString(DOCUMENT));
        if (face.find()) {
            for (String line : face.group(1).split("\n")) {
                if (line.trim().startsWith("public") && line.trim().endsWith(";")) {
                    lines.add(told(line));
                }
            }
        }
        return lines;
    }

    private static String names(Class<?>[] types) {
        List<String> names = new ArrayList<>();
        for (Class<?> type : types) {
            names.add(type.getSimpleName());
        }
        return String.join(", ", names);
    }

    private static Set<String> built() throws IllegalAccessException {
        Set<String> lines = new TreeSet<>();
        for (Method m : NameScopes.class.getDeclaredMethods()) {
            if (!Modifier.isPrivate(m.getModifiers())) {
                String thrown = names(m.getExceptionTypes());
                lines.add(Modifier.toString(m.getModifiers()) + " " + m.getReturnType() + " " + m.getName()
                    + "(" + names(m.getParameterTypes()) + ")" + (thrown.isEmpty() ? "" : " throws " + thrown));
            }
        }
        for (Constructor<?> c : NameScopes.class.getDeclaredConstructors()) {
            lines.add(Modifier.toString(c.getModifiers()) + " " + c.getName() + "(" + names(c.getParameterTypes()) + ")");
        }
        for (Field f : NameScopes.class.getDeclaredFields()) {
            if (!Modifier.isPrivate(f.getModifiers())) {
                lines.add(Modifier.toString(f.getModifiers()) + " " + f.getType() + " " + f.getName() + " = " + f.getInt(null));
            }
        }
        return lines;
    }

    private static void classes() {
        need(Modifier.isFinal(NameScopes.class.getModifiers()), "the class is not final");
        Set<String> publicNames = new TreeSet<>();
        for (Method m : NameScopes.class.getDeclaredMethods()) {
            if (Modifier.isPublic(m.getModifiers())) {
                publicNames.add(m.getName());
            }
        }
        List<Class<?>> all = new ArrayList<>(List.of(NameScopes.class.getDeclaredClasses()));
        need(all.size() <= 11, "too many classes");
        all.add(NameScopes.class);
        for (Class<?> c : all) {
            need(c == NameScopes.class || Modifier.isStatic(c.getModifiers()), c + " is not static");
            int fields = 0;
            for (Field f : c.getDeclaredFields()) {
                boolean constant = Modifier.isStatic(f.getModifiers());
                need(!constant || Modifier.isFinal(f.getModifiers()), f + " is not final");
                fields += constant ? 0 : 1;
            }
            need(fields <= 20, c + " has too many fields");
            for (Method m : c.getDeclaredMethods()) {
                need(Modifier.isPublic(m.getModifiers()) || !publicNames.contains(m.getName()), m + " bears a public name");
                need(m.getParameterCount() <= 7, m + " has too many parameters");
            }
        }
    }

    private static void source() throws IOException {
        String code = Files.readString(SOURCE).replaceAll("(?s)/\\*.*?\\*/", "").replaceAll("//[^\n]*", "")
            .replaceAll("\"[^\"\n]*\"", "\"\"");
        for (String word : FORBIDDEN) {
            Matcher m = Pattern.compile(word).matcher(code);
            need(!m.find(), "the source has " + word);
        }
        Matcher thrown = Pattern.compile("throw ([^;]*);").matcher(code);
        while (thrown.find()) {
            need(thrown.group(1).matches("new (IllegalState|IllegalArgument|IndexOutOfBounds)Exception\\((\"\")?\\)"),
                "the source throws " + thrown.group(1));
        }
        for (char c : Files.readString(SOURCE).toCharArray()) {
            need(c < 127, "the source has the sign " + (int) c);
        }
        objects(code);
        lengths(code);
    }

    /** No call makes an object, but for an exception: whatever is made belongs to a field or to the constructor. */
    private static void objects(String code) {
        String calls = code.replaceFirst("(?s)public NameScopes\\(\\) \\{.*?\\}", "")
            .replaceAll("private final [\\w\\[\\]]+ \\w+ = new [^;]*;", "").replaceAll("throw new ", "throw ");
        Matcher made = Pattern.compile("[^\n]*(\\bnew\\b|\\.clone\\(|Arrays\\.copy)[^\n]*").matcher(calls);
        need(!made.find(), "an object is made in a call");
    }

    /** A method begins with a line that ends in a brace behind its parameters, and ends where the indent is the same. */
    private static void lengths(String code) {
        Matcher method = Pattern.compile("(?m)^( +)(?!if|for|while|switch|else)[a-z][^;={}]*\\)[^;={}]*\\{\n(?s:.*?)\n\\1\\}")
            .matcher(code);
        int found = 0;
        while (method.find()) {
            found++;
            long lines = method.group().lines().count();
            need(lines <= 60, "too long, " + lines + " lines: " + method.group().lines().findFirst().orElse(""));
        }
        need(found > 80, "only " + found + " methods were found");
    }

    public static void main(String[] args) throws IOException, IllegalAccessException {
        Set<String> due = documented();
        Set<String> got = built();
        need(due.size() == 27, "the document's face was not found");
        need(due.equals(got), "the face is " + got + "\n, due is " + due);
        classes();
        source();
        System.out.println(wrong == 0 ? "the face and the source are as due" : wrong + " things are wrong");
        System.exit(wrong == 0 ? 0 : 1);
    }
}
