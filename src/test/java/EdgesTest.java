import java.util.ArrayList;
import java.util.Arrays;
import java.util.List;

/** Every method with every combination of arguments at and beyond their edges, compared with the reference. */
public final class EdgesTest {
    private static final int LOW = Integer.MIN_VALUE, HIGH = Integer.MAX_VALUE;
    private static final Object[] FLAGS = {true, false};
    private static final Object[] NAMES = {LOW, -1, 0, 1, 25, 26, HIGH};
    private static final Object[] MASKS = {LOW, -1, 0, 1 << 25, (1 << 26) - 1, 1 << 26, 1 << 30, HIGH};
    private static final Object[] CODES = {LOW, -1, 0, 32, 33, 126, 127, 65 + 256, HIGH};
    private static final Object[] LAYERS = {LOW, -1, 0, 1, 2, 3, 48, HIGH};

    private static int wrong = 0;
    private static int asked = 0;

    private final String state;
    private final List<Object[]> calls;
    private NameScopes program;
    private Reference reference;

    private EdgesTest(String state, List<Object[]> calls) {
        this.state = state;
        this.calls = calls;
        replay();
    }

    private void replay() {
        program = new NameScopes();
        reference = new Reference();
        for (Object[] call : calls) {
            String method = (String) call[0];
            Object[] args = Arrays.copyOfRange(call, 1, call.length);
            if (!RandomRunsTest.answer(program, method, args).equals(RandomRunsTest.answer(reference, method, args))) {
                wrong++;
                System.out.println(state + ": " + method + List.of(args) + " differs in its making");
            }
        }
    }

    private static Object[] upTo(int count) {
        return new Object[] {LOW, -1, 0, count / 2, count - 1, count, HIGH};
    }

    /** All values from 0 up to the last one, and those beyond them. */
    private static Object[] each(int last) {
        Object[] values = new Object[last + 5];
        for (int v = 0; v <= last; v++) {
            values[v] = v;
        }
        values[last + 1] = LOW;
        values[last + 2] = -1;
        values[last + 3] = last + 1;
        values[last + 4] = HIGH;
        return values;
    }

    private void ask(String method, Object[]... values) {
        combine(method, values, new Object[values.length], 0);
    }

    private void combine(String method, Object[][] values, Object[] args, int at) {
        if (at == values.length) {
            compare(method, args.clone());
            return;
        }
        for (Object value : values[at]) {
            args[at] = value;
            combine(method, values, args, at + 1);
        }
    }

    /** Only a call that was answered can have changed the two objects, so only then they are made anew. */
    private void compare(String method, Object[] args) {
        asked++;
        long before = program.digest();
        Object due = RandomRunsTest.answer(reference, method, args);
        Object got = RandomRunsTest.answer(program, method, args);
        boolean changed = program.digest() != before;
        if (!due.equals(got) || got instanceof Class && changed) {
            wrong++;
            System.out.println(state + ": " + method + List.of(args) + " answered " + got + ", due is " + due
                + (changed ? ", and something was changed" : ""));
        }
        if (changed) {
            if (program.digest() != reference.digest()) {
                wrong++;
                System.out.println(state + ": " + method + List.of(args) + " has another effect than is due");
            }
            replay();
        }
    }

    private void askAll() {
        Object[] scopes = upTo(program.count(0));
        Object[] declarations = upTo(program.count(1));
        Object[] imports = upTo(program.count(2));
        Object[] uses = upTo(program.count(3));
        ask("begin");
        ask("addScope", new Object[][] {scopes});
        ask("declare", scopes, NAMES, FLAGS);
        ask("importOne", scopes, scopes, NAMES, NAMES, FLAGS);
        ask("importAll", scopes, scopes, MASKS, FLAGS);
        ask("use", scopes, NAMES);
        ask("remove", new Object[] {LOW, -1, 3, HIGH}, upTo(1));
        ask("remove", new Object[] {0}, declarations);
        ask("remove", new Object[] {1}, imports);
        ask("remove", new Object[] {2}, uses);
        ask("append", new Object[][] {CODES});
        ask("clearBuffer");
        ask("firstError");
        ask("load");
        ask("resolve", scopes, NAMES, each(4));
        ask("candidate", scopes, NAMES, LAYERS, LAYERS);
        ask("offers", scopes, NAMES);
        ask("visible", scopes, FLAGS);
        ask("rename", declarations, NAMES);
        ask("ifRenamed", declarations, NAMES, each(2));
        ask("freeName", new Object[][] {declarations});
        ask("count", new Object[][] {each(10)});
        ask("declaration", declarations, each(5));
        ask("imported", imports, each(7));
        ask("used", uses, each(3));
        ask("parent", new Object[][] {scopes});
        ask("resolvedShare");
        ask("digest");
    }

    private static void addText(List<Object[]> calls, String text) {
        for (char c : text.toCharArray()) {
            calls.add(new Object[] {"append", (int) c});
        }
    }

    /** The calls for so many of each sort, with a text in the buffer. */
    private static List<Object[]> making(int scopes, int declarations, int imports, int uses, String text) {
        List<Object[]> calls = new ArrayList<>();
        for (int n = 1; n < scopes; n++) {
            calls.add(new Object[] {"addScope", n * 2 / 3});
        }
        for (int d = 0; d < declarations; d++) {
            calls.add(new Object[] {"declare", d % scopes, d / scopes * 25 % 26, d % 4 != 0});
        }
        for (int i = 0; i < imports; i++) {
            int into = i % scopes;
            int from = (i * 3 + 1) % scopes == into ? (into + 1) % scopes : (i * 3 + 1) % scopes;
            calls.add(i % 3 == 0 ? new Object[] {"importAll", into, from, i, i % 2 == 0}
                : new Object[] {"importOne", into, from, i % 2 * 25, i % 5 == 0 ? 1 : 0, i % 2 == 1});
        }
        for (int u = 0; u < uses; u++) {
            calls.add(new Object[] {"use", (scopes * 2 - u % scopes - 1) % scopes, u % 3 == 0 ? 25 : u % 2});
        }
        addText(calls, text);
        return calls;
    }

    public static void main(String[] args) {
        new EdgesTest("new", making(1, 0, 0, 0, "")).askAll();
        new EdgesTest("one of each", making(2, 1, 1, 1, "A^,B.z")).askAll();
        new EdgesTest("some", making(5, 8, 9, 10, "A^,F.z,F<E.a=z,P?a")).askAll();
        new EdgesTest("one less than full", making(15, 29, 19, 29, "P?a,".repeat(12) + "A")).askAll();
        new EdgesTest("full", making(16, 30, 20, 30, "A?a,".repeat(12) + "P^")).askAll();
        System.out.println(asked + " calls compared, " + wrong + " wrong");
        System.exit(wrong == 0 ? 0 : 1);
    }
}
