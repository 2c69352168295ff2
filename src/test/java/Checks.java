import java.io.IOException;
import java.io.UncheckedIOException;
import java.nio.file.Files;
import java.nio.file.Path;
import java.util.function.IntConsumer;

/** What the hand-written tests share: answers compared, calls refused, objects made from texts, sentences quoted. */
abstract class Checks {
    static final int A = 0, B = 1, C = 2, D = 3, E = 4, F = 5, P = 15;
    static final int NONE = -1;
    static final int LOW = Integer.MIN_VALUE, HIGH = Integer.MAX_VALUE;
    static final int ALL_NAMES = 67108863;
    static final Class<?> INDEX = IndexOutOfBoundsException.class;
    static final Class<?> ARGUMENT = IllegalArgumentException.class;
    static final Class<?> STATE = IllegalStateException.class;

    private static final Path DOCUMENT = Path.of("../shared/DOC.md");

    private static int wrong = 0;
    private static int asked = 0;
    private static String topic = "";

    private static String section;
    private static boolean[] covered;

    // ---- answers

    static void fault(String what) {
        wrong++;
        System.out.println(topic + what);
    }

    static void is(String what, double got, double due) {
        asked++;
        if (got != due) {
            fault(what + " answered " + got + ", due is " + due);
        }
    }

    static void holds(String what, boolean fine) {
        asked++;
        if (!fine) {
            fault(what + " does not hold");
        }
    }

    /** The call throws just this exception, and every answer is as before. */
    static void refuses(String what, NameScopes x, Class<?> due, Runnable call) {
        asked++;
        long before = everything(x);
        Class<?> got = null;
        try {
            call.run();
        } catch (RuntimeException e) {
            got = e.getClass();
        }
        if (got != due) {
            fault(what + " threw " + got + ", due is " + due);
        }
        if (everything(x) != before) {
            fault(what + " threw, and changed something");
        }
    }

    static void refusesEach(String what, NameScopes x, Class<?> due, int[] values, IntConsumer call) {
        for (int v : values) {
            refuses(what + " " + v, x, due, () -> call.accept(v));
        }
    }

    /** The values next to a range and those farthest from it. */
    static int[] outside(int low, int high) {
        return new int[] {LOW, low - 1, high + 1, HIGH};
    }

    /**
     * A hash of all that can be asked of an object, which is more than its digest tells. It takes more than the
     * 512 calls that the document promises: this class does not count its calls, and the tests rest on that.
     */
    static long everything(NameScopes x) {
        long hash = x.digest();
        for (int scope = 0; scope < x.count(0); scope++) {
            for (int name = 0; name < 26; name++) {
                hash = 31 * hash + x.offers(scope, name);
                for (int what = 0; what <= 4; what++) {
                    hash = 31 * hash + x.resolve(scope, name, what);
                }
                for (int layer = 0; x.candidate(scope, name, layer, 0) != NONE; layer++) {
                    for (int index = 0; x.candidate(scope, name, layer, index) != NONE; index++) {
                        hash = 31 * hash + x.candidate(scope, name, layer, index);
                    }
                }
            }
        }
        for (int d = 0; d < x.count(1); d++) {
            hash = 31 * hash + x.freeName(d);
            for (int name = 0; name < 26; name++) {
                for (int what = 0; what <= 2; what++) {
                    hash = 31 * hash + x.ifRenamed(d, name, what);
                }
            }
        }
        hash = 31 * hash + Double.doubleToLongBits(x.resolvedShare());
        return 31 * hash + x.firstError();
    }

    // ---- objects

    static void put(NameScopes x, String text) {
        for (char c : text.toCharArray()) {
            x.append(c);
        }
    }

    /** A new object with the items of some texts, each of which is loaded. */
    static NameScopes made(String... texts) {
        NameScopes x = new NameScopes();
        for (String text : texts) {
            put(x, text);
            x.load();
        }
        return x;
    }

    static int name(char letter) {
        return letter - 'a';
    }

    static int mask(String letters) {
        int mask = 0;
        for (char c : letters.toCharArray()) {
            mask |= 1 << c - 'a';
        }
        return mask;
    }

    /** Scopes in a chain, each the parent of the next. */
    static NameScopes chain(int scopes) {
        NameScopes x = new NameScopes();
        for (int n = 1; n < scopes; n++) {
            x.addScope(n - 1);
        }
        return x;
    }

    /** Two scopes and public declarations: 26 of them in scope 0, those beyond in its child. */
    static NameScopes withDeclarations(int count) {
        NameScopes x = chain(2);
        for (int d = 0; d < count; d++) {
            x.declare(d / 26, d % 26, true);
        }
        return x;
    }

    /** Three scopes and imports into scope 0 from scope 1, by turns single and full, that bring nothing. */
    static NameScopes withImports(int count) {
        NameScopes x = made("A^,A^");
        for (int i = 0; i < count; i++) {
            if (i % 2 == 0) {
                x.importOne(A, B, i, i, false);
            } else {
                x.importAll(A, B, i, true);
            }
        }
        return x;
    }

    static NameScopes withUses(int count) {
        NameScopes x = chain(2);
        for (int u = 0; u < count; u++) {
            x.use(u % 2, u % 26);
        }
        return x;
    }

    /** Everything at its limit: 16 scopes, 30 declarations, 20 imports, 30 uses and 50 characters. */
    static NameScopes full() {
        NameScopes x = chain(16);
        for (int d = 0; d < 30; d++) {
            x.declare(d % 16, d % 7, d % 3 != 0);
        }
        for (int i = 0; i < 20; i++) {
            if (i % 2 == 0) {
                x.importOne(i % 16, (i + 5) % 16, i % 7, i % 5, i % 4 == 0);
            } else {
                x.importAll(i % 16, (i + 3) % 16, i, i % 3 == 0);
            }
        }
        for (int u = 0; u < 30; u++) {
            x.use(15 - u % 16, u % 8);
        }
        put(x, "A^,A.a,A?b,B<C.a=b,".repeat(3).substring(0, 50));
        return x;
    }

    // ---- sentences

    /** From here on, sentences are quoted from what stands in the document behind this headline up to the next one. */
    static void open(String headline) {
        String document;
        try {
            document = Files.readString(DOCUMENT);
        } catch (IOException e) {
            throw new UncheckedIOException(e);
        }
        int start = document.indexOf("\n## " + headline);
        int end = document.indexOf("\n## ", start + 1);
        topic = headline + ": ";
        section = "";
        if (start < 0) {
            fault("it is not in the document");
        } else {
            int line = document.indexOf('\n', start + 1);
            section = withoutSignature(plain(document.substring(line, end < 0 ? document.length() : end)));
        }
        covered = new boolean[section.length()];
    }

    private static String plain(String text) {
        return text.replaceAll("\\s+", " ").trim();
    }

    /** FaceTest looks at the signatures; the words behind dashes are headlines of groups. */
    private static String withoutSignature(String text) {
        return text.replaceFirst("^`[^`]*` ?", "").replaceFirst("^---- \\w+ ?", "");
    }

    /** A test of a sentence that stands in the section. */
    static void sentence(String quote, Runnable test) {
        topic = quote + ": ";
        says(quote);
        int before = asked;
        try {
            test.run();
        } catch (RuntimeException e) {
            fault("the test met " + e);
        }
        if (asked == before) {
            fault("nothing was asked");
        }
    }

    /** Words of the section that need no test, since they only lead to others. */
    static void says(String quote) {
        boolean found = false;
        for (int at = section.indexOf(quote); at >= 0; at = section.indexOf(quote, at + 1)) {
            found = true;
            for (int n = at; n < at + quote.length(); n++) {
                covered[n] = true;
            }
        }
        if (!found) {
            fault("the document does not say: " + quote);
        }
    }

    /** Every word of the section must have been quoted. */
    static void close() {
        topic = "";
        StringBuilder rest = new StringBuilder();
        for (int n = 0; n < covered.length; n++) {
            rest.append(covered[n] ? '\n' : section.charAt(n));
        }
        String left = plain(rest.toString());
        if (!left.isEmpty()) {
            fault("no test quotes: " + left);
        }
    }

    static void end() {
        System.out.println(asked + " answers asked, " + wrong + " wrong");
        System.exit(wrong == 0 ? 0 : 1);
    }
}
