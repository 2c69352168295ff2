import java.math.BigInteger;
import java.util.ArrayList;
import java.util.List;

/** Every sentence of the promises 1 to 26, quoted, with a test of its own for the boundary that it names. */
public final class SentencesTest extends Checks {
    private static final int[] NO_NAMES = outside(0, 25);
    private static final int[] NO_SCOPES = outside(0, 15);

    /** Two scopes that offer "a" each, a third one that brings both: its uses of "a" are ambiguous. */
    private static NameScopes ambiguous(boolean bySingleImports) {
        return bySingleImports ? made("A^,A^,A^,B.a,C.a,D<B.a,D<C.a") : made("A^,A^,A^,B.a,C.a,D<B,D<C");
    }

    private static void newObject() {
        open("Promise 1:");
        sentence("Creates a resolver with scope 0 alone, and an empty buffer.", () -> {
            NameScopes x = new NameScopes();
            is("scopes", x.count(0), 1);
            for (int what = 1; what <= 10; what++) {
                is("count " + what, x.count(what), 0);
            }
            is("the empty buffer has no error", x.firstError(), 0);
            refuses("it is no text", x, ARGUMENT, x::load);
            is("its length", x.clearBuffer(), 0);
            refuses("scope 1", x, INDEX, () -> x.parent(1));
            refuses("declaration 0", x, INDEX, () -> x.declaration(0, 0));
            refuses("import 0", x, INDEX, () -> x.imported(0, 0));
            refuses("use 0", x, INDEX, () -> x.used(0, 0));
        });
        close();
    }

    private static void begin() {
        open("Promise 2:");
        sentence("Begins anew with scope 0 alone.", () -> {
            NameScopes x = full();
            x.clearBuffer();
            x.begin();
            holds("all as in a new object", everything(x) == everything(new NameScopes()));
            is("first scope", x.addScope(0), 1);
            is("first declaration", x.declare(1, 0, true), 0);
            is("first import", x.importAll(0, 1, 0, true), 0);
            is("first use", x.use(0, 0), 0);
            holds("all as in another object", everything(x) == everything(made("A^,B.a,A<<B,A?a")));
        });
        sentence("The buffer stays.", () -> {
            NameScopes x = full();
            x.begin();
            refuses("it is full", x, STATE, () -> x.append('a'));
            is("its length", x.clearBuffer(), 50);
            x.begin();
            is("empty", x.clearBuffer(), 0);
            NameScopes y = made("A^");
            put(y, "A^,B.z");
            y.begin();
            is("items", y.load(), 2);
            is("the name", y.declaration(0, 1), 25);
        });
        sentence("Returns how many scopes there were.", () -> {
            NameScopes x = new NameScopes();
            is("of a new object", x.begin(), 1);
            is("again", x.begin(), 1);
            is("two", chain(2).begin(), 2);
            is("sixteen", full().begin(), 16);
        });
        close();
    }

    private static void addScope() {
        open("Promise 3:");
        sentence("Adds a scope. - `parent`: its parent Returns its number.", () -> {
            NameScopes x = new NameScopes();
            is("first", x.addScope(0), 1);
            for (int n = 2; n <= 15; n++) {
                is("number", x.addScope(n / 2), n);
                is("parent", x.parent(n), n / 2);
            }
        });
        sentence("Throws `IndexOutOfBoundsException` if the parent does not exist", () -> {
            NameScopes x = new NameScopes();
            refusesEach("in a new object", x, INDEX, outside(0, 0), v -> x.addScope(v));
            NameScopes y = chain(15);
            refusesEach("before the last one", y, INDEX, outside(0, 14), v -> y.addScope(v));
            NameScopes z = chain(16);
            refusesEach("behind the last one", z, INDEX, NO_SCOPES, v -> z.addScope(v));
        });
        sentence("Throws `IllegalStateException` if there are 16 scopes", () -> {
            NameScopes x = chain(15);
            is("the last one", x.addScope(14), 15);
            for (int n = 0; n <= 15; n++) {
                int above = n;
                refuses("below " + n, x, STATE, () -> x.addScope(above));
            }
        });
        close();
    }

    private static void declare() {
        open("Promise 4:");
        sentence("Adds a declaration. - `scope`: its scope", () -> {
            NameScopes x = chain(16);
            x.declare(0, 3, true);
            x.declare(15, 3, true);
            is("declarations", x.count(1), 2);
            is("first scope", x.declaration(0, 0), 0);
            is("last scope", x.declaration(1, 0), 15);
        });
        sentence("- `name`: 0 to 25", () -> {
            NameScopes x = new NameScopes();
            for (int n = 25; n >= 0; n--) {
                is("name", x.declaration(x.declare(0, n, true), 1), n);
            }
            is("all are seen", x.visible(0, false), ALL_NAMES);
        });
        sentence("- `isPublic`: true for a public one", () -> {
            NameScopes x = new NameScopes();
            is("public", x.declaration(x.declare(0, 0, true), 2), 1);
            is("private", x.declaration(x.declare(0, 1, false), 2), 0);
            is("offers", x.offers(0, 0) * 10 + x.offers(0, 1), 10);
        });
        sentence("Returns its number.", () -> {
            NameScopes x = chain(2);
            for (int d = 0; d < 30; d++) {
                is("number", x.declare(d % 2, d / 2, true), d);
            }
        });
        sentence("Throws `IndexOutOfBoundsException` if the scope does not exist", () -> {
            NameScopes x = new NameScopes();
            refusesEach("of a new object", x, INDEX, outside(0, 0), v -> x.declare(v, 0, true));
            NameScopes y = chain(16);
            refusesEach("of sixteen", y, INDEX, NO_SCOPES, v -> y.declare(v, 0, false));
        });
        sentence("Throws `IllegalArgumentException` if name is out of range, or the scope has a declaration of this name", () -> {
            NameScopes x = made("A^,A.a,B-z");
            refusesEach("name", x, ARGUMENT, NO_NAMES, v -> x.declare(0, v, true));
            refuses("the first name again", x, ARGUMENT, () -> x.declare(A, 0, false));
            refuses("the last name again", x, ARGUMENT, () -> x.declare(B, 25, true));
            is("in the other scope", x.declare(A, 25, true), 2);
        });
        sentence("Throws `IllegalStateException` if there are 30 declarations", () -> {
            NameScopes x = withDeclarations(29);
            is("the last one", x.declare(1, 25, false), 29);
            refuses("public", x, STATE, () -> x.declare(1, 24, true));
            refuses("private", x, STATE, () -> x.declare(1, 24, false));
        });
        close();
    }

    private static void importOne() {
        open("Promise 5:");
        sentence("Adds a single import. - `into`: the scope into which it leads - `from`: the scope from which it leads", () -> {
            NameScopes x = chain(16);
            x.importOne(0, 15, 1, 2, true);
            x.importOne(15, 0, 1, 2, true);
            is("imports", x.count(2), 2);
            is("into", x.imported(0, 0) * 100 + x.imported(1, 0), 15);
            is("from", x.imported(0, 1) * 100 + x.imported(1, 1), 1500);
        });
        sentence("- `source`: the source name, 0 to 25 - `local`: the local name, 0 to 25", () -> {
            NameScopes x = made("A^,A.a,A.z");
            x.importOne(B, A, 0, 25, true);
            x.importOne(B, A, 25, 0, true);
            is("sources", x.imported(0, 2) * 100 + x.imported(1, 2), 25);
            is("local names", x.imported(0, 3) * 100 + x.imported(1, 3), 2500);
            is("a is brought as z", x.resolve(B, 25, 0), 0);
            is("z is brought as a", x.resolve(B, 0, 0), 1);
        });
        sentence("- `passed`: true if it is passed on", () -> {
            NameScopes x = made("A^,A^,A.a");
            x.importOne(B, A, 0, 0, true);
            x.importOne(C, A, 0, 0, false);
            is("passed on", x.imported(0, 5) + x.offers(B, 0), 2);
            is("not passed on", x.imported(1, 5) + x.offers(C, 0), 0);
        });
        sentence("Returns its number.", () -> {
            NameScopes x = chain(2);
            for (int i = 0; i < 20; i++) {
                is("number, though it is always the same", x.importOne(A, B, 0, 0, true), i);
            }
        });
        sentence("Throws `IndexOutOfBoundsException` if one of the scopes does not exist", () -> {
            NameScopes x = chain(2);
            refusesEach("into", x, INDEX, outside(0, 1), v -> x.importOne(v, 0, 0, 0, true));
            refusesEach("from", x, INDEX, outside(0, 1), v -> x.importOne(0, v, 0, 0, true));
            refusesEach("both, the same", x, INDEX, outside(0, 1), v -> x.importOne(v, v, 0, 0, true));
            NameScopes y = chain(16);
            refusesEach("into, of sixteen", y, INDEX, NO_SCOPES, v -> y.importOne(v, 15, 0, 0, true));
            refusesEach("from, of sixteen", y, INDEX, NO_SCOPES, v -> y.importOne(15, v, 0, 0, true));
        });
        sentence("Throws `IllegalArgumentException` if both scopes are the same, or a name is out of range", () -> {
            NameScopes x = chain(16);
            refuses("scope 0", x, ARGUMENT, () -> x.importOne(0, 0, 0, 1, true));
            refuses("scope 15", x, ARGUMENT, () -> x.importOne(15, 15, 0, 1, false));
            refusesEach("source", x, ARGUMENT, NO_NAMES, v -> x.importOne(0, 1, v, 0, true));
            refusesEach("local", x, ARGUMENT, NO_NAMES, v -> x.importOne(0, 1, 0, v, true));
            refuses("NONE for both names", x, ARGUMENT, () -> x.importOne(0, 1, NONE, NONE, true));
        });
        sentence("Throws `IllegalStateException` if there are 20 imports", () -> {
            NameScopes x = withImports(19);
            is("the last one", x.importOne(A, B, 0, 0, true), 19);
            refuses("one more", x, STATE, () -> x.importOne(A, B, 0, 0, true));
        });
        close();
    }

    private static void importAll() {
        open("Promise 6:");
        sentence("Adds a full import. - `into`: the scope into which it leads - `from`: the scope from which it leads", () -> {
            NameScopes x = chain(16);
            x.importAll(0, 15, 0, true);
            x.importAll(15, 0, 0, true);
            is("imports", x.count(2), 2);
            is("into", x.imported(0, 0) * 100 + x.imported(1, 0), 15);
            is("from", x.imported(0, 1) * 100 + x.imported(1, 1), 1500);
        });
        sentence("- `excepted`: the excepted names, as a bit mask with bit n for the name n", () -> {
            NameScopes x = made("A^");
            for (int n = 0; n < 26; n++) {
                x.declare(A, n, true);
            }
            for (int n = 0; n < 26; n++) {
                x.importAll(B, A, 1 << n, true);
                is("excepted", x.imported(0, 4), 1 << n);
                is("brought", x.imported(0, 6), 25);
                is("the excepted one", x.resolve(B, n, 2), 0);
                is("another one", x.resolve(B, (n + 1) % 26, 2), 2);
                x.remove(1, 0);
            }
            is("none", x.imported(x.importAll(B, A, 0, true), 6), 26);
            is("all", x.imported(x.importAll(B, A, ALL_NAMES, true), 6), 0);
        });
        sentence("- `passed`: true if it is passed on", () -> {
            NameScopes x = made("A^,A^,A.a");
            x.importAll(B, A, 0, true);
            x.importAll(C, A, 0, false);
            is("passed on", x.imported(0, 5) + x.offers(B, 0), 2);
            is("not passed on", x.imported(1, 5) + x.offers(C, 0), 0);
        });
        sentence("Returns its number.", () -> {
            NameScopes x = chain(2);
            for (int i = 0; i < 20; i++) {
                is("number, though it is always the same", x.importAll(A, B, 0, true), i);
            }
        });
        sentence("Throws `IndexOutOfBoundsException` if one of the scopes does not exist", () -> {
            NameScopes x = chain(2);
            refusesEach("into", x, INDEX, outside(0, 1), v -> x.importAll(v, 0, 0, true));
            refusesEach("from", x, INDEX, outside(0, 1), v -> x.importAll(0, v, 0, true));
            refusesEach("both, the same", x, INDEX, outside(0, 1), v -> x.importAll(v, v, 0, true));
            NameScopes y = chain(16);
            refusesEach("into, of sixteen", y, INDEX, NO_SCOPES, v -> y.importAll(v, 15, 0, true));
            refusesEach("from, of sixteen", y, INDEX, NO_SCOPES, v -> y.importAll(15, v, 0, true));
        });
        sentence("Throws `IllegalArgumentException` if both scopes are the same, or excepted is negative or has a bit that "
                + "stands for no name", () -> {
            NameScopes x = chain(16);
            refuses("scope 0", x, ARGUMENT, () -> x.importAll(0, 0, 0, true));
            refuses("scope 15", x, ARGUMENT, () -> x.importAll(15, 15, 0, false));
            int[] masks = {-1, LOW, LOW + 1, -ALL_NAMES, 1 << 26, (1 << 26) + 1, 1 << 27, 1 << 28, 1 << 29, 1 << 30, HIGH};
            refusesEach("excepted", x, ARGUMENT, masks, v -> x.importAll(0, 1, v, true));
        });
        sentence("Throws `IllegalStateException` if there are 20 imports", () -> {
            NameScopes x = withImports(19);
            is("the last one", x.importAll(A, B, 0, true), 19);
            refuses("one more", x, STATE, () -> x.importAll(A, B, 0, true));
        });
        close();
    }

    private static void use() {
        open("Promise 7:");
        sentence("Adds a use. - `scope`: its scope", () -> {
            NameScopes x = chain(16);
            x.use(0, 3);
            x.use(15, 3);
            is("uses", x.count(3), 2);
            is("first scope", x.used(0, 0), 0);
            is("last scope", x.used(1, 0), 15);
        });
        sentence("- `name`: 0 to 25", () -> {
            NameScopes x = new NameScopes();
            for (int n = 25; n >= 0; n--) {
                is("name", x.used(x.use(0, n), 1), n);
            }
        });
        sentence("Returns its number.", () -> {
            NameScopes x = new NameScopes();
            for (int u = 0; u < 30; u++) {
                is("number, though it is always the same", x.use(0, 0), u);
            }
        });
        sentence("Throws `IndexOutOfBoundsException` if the scope does not exist", () -> {
            NameScopes x = new NameScopes();
            refusesEach("of a new object", x, INDEX, outside(0, 0), v -> x.use(v, 0));
            NameScopes y = chain(16);
            refusesEach("of sixteen", y, INDEX, NO_SCOPES, v -> y.use(v, 0));
        });
        sentence("Throws `IllegalArgumentException` if name is out of range", () -> {
            NameScopes x = new NameScopes();
            refusesEach("name", x, ARGUMENT, NO_NAMES, v -> x.use(0, v));
        });
        sentence("Throws `IllegalStateException` if there are 30 uses", () -> {
            NameScopes x = withUses(29);
            is("the last one", x.use(1, 25), 29);
            refuses("one more", x, STATE, () -> x.use(0, 0));
        });
        close();
    }

    private static void remove() {
        open("Promise 8:");
        sentence("Removes a declaration, an import or a use; the numbers of the later ones of its sort decrease by 1.",
                SentencesTest::removesEachSort);
        sentence("- `sort`: 0 for a declaration, 1 for an import, 2 for a use - `number`: its number", () -> {
            for (int sort = 0; sort <= 2; sort++) {
                NameScopes x = full();
                int last = x.count(1 + sort) - 1;
                x.remove(sort, last);
                x.remove(sort, 0);
                int[] due = {30, 20, 30};
                due[sort] -= 2;
                for (int n = 0; n <= 2; n++) {
                    is("sort " + sort + ", how many of " + n, x.count(1 + n), due[n]);
                }
                is("the buffer", x.clearBuffer(), 50);
            }
        });
        sentence("Returns how many uses (of those that are left) have another outcome than before", () -> {
            NameScopes x = made("A.a,A^,A^,C.a,B<C.a");
            is("there are no uses", x.remove(0, 0), 0);
            NameScopes y = made("A.a,A?a");
            is("the use itself is not left", y.remove(2, 0), 0);
            is("and has no outcome later", y.remove(0, 0), 0);
            NameScopes z = made("A^,B.z,A<B,A.a");
            for (int u = 0; u < 30; u++) {
                z.use(A, u < 29 ? 25 : 0);
            }
            is("29 of 30 by an import", z.remove(1, 0), 29);
            is("none by a declaration that was not reached any more", z.remove(0, 0), 0);
            is("the last one", z.remove(0, 0), 1);
            NameScopes w = made("A.a");
            for (int u = 0; u < 30; u++) {
                w.use(A, 0);
            }
            is("all", w.remove(0, 0), 30);
            NameScopes u = made("A.a,A.z,A?z,A?a");
            is("one that is unresolved now", u.remove(0, 1), 1);
            NameScopes t = made("A.z,A^,A^,A^,B.a,C.a,D<B,D<C,D?a");
            is("one that was ambiguous", t.remove(0, 1), 1);
            NameScopes v = made("A^,A^,B.a,C<B,C<B,C?a");
            is("an import beside the same one", v.remove(1, 0), 0);
            is("the same one alone", v.remove(1, 0), 1);
        });
        sentence("(where a declaration whose number has decreased counts as the same).", () -> {
            NameScopes x = withDeclarations(30);
            x.use(1, 3);
            x.use(0, 25);
            is("the first one", x.remove(0, 0), 0);
            is("29 is 28", x.used(0, 2), 28);
            is("25 is 24", x.used(1, 2), 24);
            is("the last one but one", x.remove(0, 27), 0);
            is("28 is 27", x.used(0, 2), 27);
            is("24 is 24", x.used(1, 2), 24);
            is("the last one, whose name is in scope 0, too", x.remove(0, 27), 1);
            is("that one", x.used(0, 2), 2);
            NameScopes y = made("A.z,A^,A^,A^,B.a,C.a,D<B,D<C,D?a");
            is("the same two", y.remove(0, 0), 0);
            NameScopes z = made("A.a,A^,B.a,B?a,A?a");
            is("another one, though it has the number now", z.remove(0, 0), 1);
            is("it", z.used(0, 2), 0);
            NameScopes w = made("A.a,A^,B.a,B?a");
            is("the outer one, though its number is that of the use's bit", w.remove(0, 1), 1);
        });
        sentence("Throws `IllegalArgumentException` if sort is not 0 to 2", () -> {
            NameScopes x = made("A^,A.a,A<B,A?a");
            refusesEach("sort", x, ARGUMENT, outside(0, 2), v -> x.remove(v, 0));
        });
        sentence("Throws `IndexOutOfBoundsException` if there is no such number", () -> {
            NameScopes x = new NameScopes();
            NameScopes y = full();
            for (int n = 0; n <= 2; n++) {
                int sort = n;
                refusesEach("none", x, INDEX, new int[] {LOW, -1, 0, HIGH}, v -> x.remove(sort, v));
                refusesEach("full", y, INDEX, outside(0, y.count(1 + n) - 1), v -> y.remove(sort, v));
            }
            NameScopes z = made("A^,A.a,A.b,A?a");
            is("the second declaration", z.remove(0, 1), 0);
            refuses("it is gone", z, INDEX, () -> z.remove(0, 1));
        });
        close();
    }

    private static void removesEachSort() {
        int[] places = {0, 7, 18, 19};
        for (int at : places) {
            NameScopes x = full();
            NameScopes y = full();
            x.remove(0, at);
            x.remove(2, at);
            for (int n = 0; n < 29; n++) {
                int former = n < at ? n : n + 1;
                for (int what = 0; what <= 2; what++) {
                    is("declaration " + n, x.declaration(n, what), y.declaration(former, what));
                }
                for (int what = 0; what <= 1; what++) {
                    is("use " + n, x.used(n, what), y.used(former, what));
                }
            }
            x.remove(1, at);
            for (int n = 0; n < 19; n++) {
                int former = n < at ? n : n + 1;
                for (int what = 0; what <= 5; what++) {
                    is("import " + n, x.imported(n, what), y.imported(former, what));
                }
            }
        }
        NameScopes z = made("A^,A.a,A<B,A?a");
        z.remove(0, 0);
        z.remove(1, 0);
        z.remove(2, 0);
        holds("the only ones", everything(z) == everything(made("A^")));
        NameScopes last = full();
        last.remove(0, 29);
        last.remove(2, 29);
        is("the last ones", last.count(1) + last.count(3), 58);
        is("those before stay", last.declaration(28, 0) * 100 + last.used(28, 0), 1203);
    }

    private static void append() {
        open("Promise 9:");
        sentence("Appends a character to the buffer. - `code`: the character code, 33 to 126", () -> {
            for (int code = 33; code <= 126; code++) {
                NameScopes x = new NameScopes();
                is("length", x.append(code), 1);
                boolean isScope = code >= 'A' && code <= 'P';
                is("first error", x.firstError(), isScope ? 1 : 0);
                holds("it is this one", x.digest() == 31 * (31 * nothing() + 1) + code);
            }
        });
        sentence("Returns the new length of the buffer.", () -> {
            NameScopes x = new NameScopes();
            for (int n = 1; n <= 50; n++) {
                is("length", x.append('!'), n);
            }
        });
        sentence("Throws `IllegalArgumentException` if code is not 33 to 126", () -> {
            NameScopes x = new NameScopes();
            refusesEach("code", x, ARGUMENT, outside(33, 126), v -> x.append(v));
            refusesEach("one that is a character only by its low bits", x, ARGUMENT,
                new int[] {0, 'A' + 256, 'A' + 65536, 'A' - 256, -'A'}, v -> x.append(v));
        });
        sentence("Throws `IllegalStateException` if the buffer has 50 characters", () -> {
            NameScopes x = new NameScopes();
            put(x, "A".repeat(49));
            is("the 50th", x.append('B'), 50);
            refuses("the first code", x, STATE, () -> x.append(33));
            refuses("the last code", x, STATE, () -> x.append(126));
            x.clearBuffer();
            is("there is room again", x.append('A'), 1);
        });
        close();
    }

    /** The hash of a new object up to the length of its buffer, which is not in it. */
    private static long nothing() {
        long hash = 1997;
        int[] values = {1, 0, 0, 0, 0, 0, 0, 0, 0, 0, 0, -1, 0, 0};
        for (int v : values) {
            hash = 31 * hash + v;
        }
        return hash;
    }

    private static void clearBuffer() {
        open("Promise 10:");
        sentence("Clears the buffer.", () -> {
            NameScopes x = new NameScopes();
            put(x, "A.a");
            x.clearBuffer();
            is("nothing to read", x.firstError(), 0);
            refuses("nothing to load", x, ARGUMENT, x::load);
            put(x, "A?b");
            is("the new text alone", x.load(), 1);
            is("no declaration", x.count(1) * 10 + x.count(3), 1);
            NameScopes y = made("A.a,A^");
            y.clearBuffer();
            is("the rest stays", y.count(0) * 10 + y.count(1), 21);
        });
        sentence("Returns the length that it had.", () -> {
            NameScopes x = new NameScopes();
            is("empty", x.clearBuffer(), 0);
            x.append('A');
            is("one", x.clearBuffer(), 1);
            put(x, "~".repeat(50));
            is("full", x.clearBuffer(), 50);
            is("again", x.clearBuffer(), 0);
        });
        close();
    }

    private static void firstError() {
        open("Promise 11:");
        sentence("Finds the first syntax error of the buffer. Returns the index of the first character that is a syntax "
                + "error;", () -> {
            is("index 0", errorOf("a"), 0);
            is("index 1", errorOf("Aa"), 1);
            is("the last one of 50", errorOf("A?a,".repeat(12) + "A!"), 49);
            is("the last one but one, and the last one", errorOf("A?a,".repeat(12) + "!!"), 48);
            is("a comma first", errorOf(","), 0);
            is("two commas", errorOf("A^,,"), 3);
            is("not the second one", errorOf("A^^,^"), 2);
        });
        sentence("the length of the buffer if there is none.", () -> {
            is("empty", errorOf(""), 0);
            is("complete", errorOf("A.a"), 3);
            is("incomplete", errorOf("A."), 2);
            is("with a comma at the end", errorOf("A.a,"), 4);
            is("full", errorOf("A?a,".repeat(12) + "A?"), 50);
            is("full of one item", errorOf("A<B/" + "a".repeat(46)), 50);
            NameScopes x = new NameScopes();
            put(x, "A?a,A");
            x.firstError();
            is("asking changes nothing", x.append('^'), 6);
        });
        close();
    }

    private static int errorOf(String text) {
        NameScopes x = new NameScopes();
        put(x, text);
        return x.firstError();
    }

    private static void load() {
        open("Promise 12:");
        sentence("Adds the items in the buffer, one after another, and clears the buffer.", () -> {
            NameScopes x = new NameScopes();
            put(x, "A^,B^,C.a,B<<C,A<B.a=z,A?z,C-z,B?z,B^,D?a,B<A,D<<C");
            is("items", x.load(), 12);
            is("each can rest on those before it", x.used(0, 2), 0);
            NameScopes y = chain(2);
            y.addScope(1);
            y.declare(2, 0, true);
            y.importAll(1, 2, 0, true);
            y.importOne(0, 1, 0, 25, false);
            y.use(0, 25);
            y.declare(2, 25, false);
            y.use(1, 25);
            y.addScope(1);
            y.use(3, 0);
            y.importAll(1, 0, 0, false);
            y.importAll(3, 2, 0, true);
            holds("as by the calls", everything(x) == everything(y));
            is("the buffer", x.clearBuffer(), 0);
        });
        sentence("Returns the number of items.", () -> {
            NameScopes x = new NameScopes();
            put(x, "A^");
            is("one", x.load(), 1);
            put(x, "A<B/" + "a".repeat(46));
            is("one of 50 characters", x.load(), 1);
            x.begin();
            put(x, "A^,".repeat(15) + "A<B.a");
            is("sixteen of 50 characters", x.load(), 16);
            put(x, "A?a,P?z");
            is("two", x.load(), 2);
        });
        sentence("Throws `IllegalArgumentException` if the buffer is not a complete text", () -> {
            String[] texts = {"", "A", "A^,", "A.", "A-", "A?", "A<", "A<<", "A<B.", "A<<B.a=", "A<B/", "A.a,B", "Q^", "A^,,A^",
                "A.a,B?", "A^A^", "A<B/a.b", "A<B.a=bc", "!", "A?a,".repeat(12) + "A?"};
            for (String text : texts) {
                NameScopes x = made("A^,A.a");
                put(x, text);
                refuses(text, x, ARGUMENT, x::load);
                is("the text stays", x.clearBuffer(), text.length());
            }
        });
        sentence("Throws `IllegalStateException` if one of the items cannot be added when its turn comes (that is, its "
                + "method would throw an exception)", SentencesTest::loadRefuses);
        close();
    }

    private static void loadRefuses() {
        String[] texts = {"C^", "C.b", "C-b", "C?a", "C<A", "A<C", "C<<A.a", "A<<C.a=b", "A.a", "A-a", "B.c,B-c", "A<A", "B<<B.a",
            "C?a,A^", "A^,D^", "A^,A.b,A<C,A?b,B.b,A<A"};
        for (String text : texts) {
            NameScopes x = made("A^,A.a");
            put(x, text);
            refuses(text, x, STATE, x::load);
            is("the text stays", x.clearBuffer(), text.length());
            holds("as before", everything(x) == everything(made("A^,A.a")));
        }
        roomInLoad(chain(15), "A^", "A^");
        roomInLoad(withDeclarations(29), "B.y", "B-z");
        roomInLoad(withImports(19), "A<B", "A<<B.a=b");
        roomInLoad(withUses(29), "A?a", "A?a");
        NameScopes y = new NameScopes();
        put(y, "A^,".repeat(16) + "A^");
        refuses("17 scopes in 50 characters", y, STATE, y::load);
        y.clearBuffer();
        put(y, "A^,".repeat(15) + "P?a");
        is("a use of the last scope of the text", y.load(), 16);
    }

    /** Of an object with room for one more: two items are refused, and one of them is not. */
    private static void roomInLoad(NameScopes x, String one, String two) {
        put(x, one + "," + two);
        refuses("no room for " + two, x, STATE, x::load);
        x.clearBuffer();
        put(x, one);
        is("room for " + one, x.load(), 1);
        put(x, two);
        refuses("full, " + two, x, STATE, x::load);
    }

    private static void resolve() {
        open("Promise 13:");
        sentence("Resolves a name from a scope. - `scope`: the scope - `name`: 0 to 25", () -> {
            NameScopes x = chain(16);
            x.declare(0, 0, true);
            x.declare(15, 25, true);
            is("first name, last scope", x.resolve(15, 0, 0), 0);
            is("last name, last scope", x.resolve(15, 25, 0), 1);
            is("first name, first scope", x.resolve(0, 0, 0), 0);
            is("last name, first scope", x.resolve(0, 25, 0), NONE);
        });
        says("- `what`:");
        sentence("0: the declaration to which it is resolved, NONE if it is unresolved or ambiguous;", () -> {
            is("unresolved", new NameScopes().resolve(0, 0, 0), NONE);
            is("ambiguous by single imports", ambiguous(true).resolve(D, 0, 0), NONE);
            is("ambiguous by full imports", ambiguous(false).resolve(D, 0, 0), NONE);
            is("number 0", made("A.a").resolve(0, 0, 0), 0);
            is("number 29", withDeclarations(30).resolve(1, 3, 0), 29);
        });
        sentence("1: the number of declarations in the first layer, 0 if there is none;", () -> {
            is("none", new NameScopes().resolve(0, 25, 1), 0);
            is("one", made("A.a,A^,B.a").resolve(B, 0, 1), 1);
            is("two", ambiguous(true).resolve(D, 0, 1), 2);
            is("twenty", twenty().resolve(0, 25, 1), 20);
        });
        sentence("2: the sort of the first layer (0 declaration, 1 single imports, 2 full imports), NONE if there is "
                + "none;", () -> {
            is("none", new NameScopes().resolve(0, 0, 2), NONE);
            is("declaration", made("A.a").resolve(A, 0, 2), 0);
            is("the parent's declaration", made("A^,A-a").resolve(B, 0, 2), 0);
            is("single imports", made("A^,A^,B.a,C<B.a,C<B").resolve(C, 0, 2), 1);
            is("full imports", made("A^,A^,B.a,C<B,A<B.a").resolve(C, 0, 2), 2);
        });
        sentence("3: how many steps from the scope to a parent lead to the scope of the first layer, NONE if there is "
                + "none;", () -> {
            NameScopes x = chain(16);
            is("none", x.resolve(15, 0, 3), NONE);
            x.declare(0, 0, true);
            for (int n = 0; n <= 15; n++) {
                is("from scope " + n, x.resolve(n, 0, 3), n);
            }
            x.importOne(7, 0, 0, 0, true);
            is("to an import", x.resolve(15, 0, 3), 8);
            is("from its scope", x.resolve(7, 0, 3), 0);
            is("from above it", x.resolve(6, 0, 3), 6);
        });
        sentence("4: the number of hidden layers Returns the number.", () -> {
            is("no layer", new NameScopes().resolve(0, 0, 4), 0);
            is("one layer", made("A.a").resolve(0, 0, 4), 0);
            is("two layers", made("A.a,A^,B-a").resolve(B, 0, 4), 1);
            is("an ambiguous one", ambiguous(false).resolve(D, 0, 4), 0);
            is("three sorts", made("A^,A^,B.a,C-a,C<B.a,C<B").resolve(C, 0, 4), 2);
        });
        sentence("Throws `IndexOutOfBoundsException` if the scope does not exist", () -> {
            NameScopes x = new NameScopes();
            refusesEach("of a new object", x, INDEX, outside(0, 0), v -> x.resolve(v, 0, 0));
            NameScopes y = chain(16);
            refusesEach("of sixteen", y, INDEX, NO_SCOPES, v -> y.resolve(v, 25, 4));
        });
        sentence("Throws `IllegalArgumentException` if name or what is out of range", () -> {
            NameScopes x = made("A.a");
            refusesEach("name", x, ARGUMENT, NO_NAMES, v -> x.resolve(0, v, 0));
            refusesEach("what", x, ARGUMENT, outside(0, 4), v -> x.resolve(0, 0, v));
            refuses("both", x, ARGUMENT, () -> x.resolve(0, 26, 5));
        });
        close();
    }

    /** Scope 0 brings 20 declarations by the name z, the first and the last one among them. */
    private static NameScopes twenty() {
        NameScopes x = chain(16);
        for (int d = 0; d < 30; d++) {
            x.declare(1 + d % 15, d / 15, true);
        }
        for (int i = 0; i < 20; i++) {
            int d = i < 10 ? i : i + 10;
            x.importOne(0, 1 + d % 15, d / 15, 25, false);
        }
        return x;
    }

    private static void candidate() {
        open("Promise 14:");
        sentence("Returns a declaration of a layer. - `scope`: the scope from which a name is resolved - `name`: 0 to 25", () -> {
            NameScopes x = chain(16);
            x.declare(0, 0, true);
            x.declare(15, 25, true);
            is("first name, last scope", x.candidate(15, 0, 0, 0), 0);
            is("last name, last scope", x.candidate(15, 25, 0, 0), 1);
            is("last name, first scope", x.candidate(0, 25, 0, 0), NONE);
        });
        sentence("- `layer`: the index of the layer, 0 for the first one, 1 for the first hidden one, and so on", () -> {
            NameScopes x = chain(16);
            for (int n = 0; n < 16; n++) {
                x.declare(n, 25, false);
            }
            for (int layer = 0; layer < 16; layer++) {
                is("layer " + layer, x.candidate(15, 25, layer, 0), 15 - layer);
            }
            is("beyond", x.candidate(15, 25, 16, 0), NONE);
        });
        sentence("- `index`: the index of the declaration in the layer, in ascending order of the numbers, from 0", () -> {
            NameScopes x = twenty();
            for (int index = 0; index < 20; index++) {
                is("index " + index, x.candidate(0, 25, 0, index), index < 10 ? index : index + 10);
            }
            NameScopes y = made("A^,A^,A^,C.a,B.a,D<B,D<C");
            is("not in the order of the imports", y.candidate(D, 0, 0, 0), 0);
            is("the second", y.candidate(D, 0, 0, 1), 1);
        });
        sentence("Returns the declaration; NONE if there is no such layer or index.", () -> {
            NameScopes x = made("A^,A.a,B.a,B<A.a=b,B<A,A.z,A.b");
            int[] beyond = {LOW, LOW + 1, -4, -3, -2, -1, 3, 4, 32, HIGH};
            for (int v : beyond) {
                is("layer " + v, x.candidate(B, 0, v, 0), NONE);
                is("index " + v, x.candidate(B, 0, 0, v), NONE);
                is("both " + v, x.candidate(B, 0, v, v), NONE);
                is("of no layer at all " + v, x.candidate(B, 24, v, v), NONE);
                is("of layers by imports " + v, x.candidate(B, 1, v, 0), NONE);
                is("of the layers of the last name " + v, x.candidate(B, 25, v, 0), NONE);
            }
            is("the second index of one", x.candidate(B, 0, 0, 1), NONE);
            is("the second index of the hidden one", x.candidate(B, 0, 1, 1), NONE);
            is("the last layer", x.candidate(B, 0, 2, 0), 0);
            is("behind the last index of twenty", twenty().candidate(0, 25, 0, 20), NONE);
        });
        sentence("Throws `IndexOutOfBoundsException` if the scope does not exist", () -> {
            NameScopes x = new NameScopes();
            refusesEach("of a new object", x, INDEX, outside(0, 0), v -> x.candidate(v, 0, 0, 0));
            NameScopes y = chain(16);
            refusesEach("of sixteen", y, INDEX, NO_SCOPES, v -> y.candidate(v, 0, -1, -1));
        });
        sentence("Throws `IllegalArgumentException` if name is out of range", () -> {
            NameScopes x = made("A.a");
            refusesEach("name", x, ARGUMENT, NO_NAMES, v -> x.candidate(0, v, 0, 0));
            refusesEach("name, and no layer", x, ARGUMENT, NO_NAMES, v -> x.candidate(0, v, LOW, HIGH));
        });
        close();
    }

    private static void offers() {
        open("Promise 15:");
        sentence("Returns an offer of a scope. - `scope`: the scope - `name`: 0 to 25", () -> {
            NameScopes x = chain(16);
            x.declare(0, 25, true);
            x.declare(15, 0, true);
            is("first scope", x.offers(0, 25) * 10 + x.offers(0, 0), 10);
            is("last scope, which has nothing of its parents", x.offers(15, 25) * 10 + x.offers(15, 0), 1);
        });
        sentence("Returns the number of declarations that the scope offers with this name.", () -> {
            is("none", new NameScopes().offers(0, 0), 0);
            is("one", made("A.a").offers(0, 0), 1);
            is("a private one", made("A-a").offers(0, 0), 0);
            is("two", made("A^,A^,A^,B.a,C.a,D<<B,D<<C.a").offers(D, 0), 2);
            is("not passed on", made("A^,A^,A^,B.a,C.a,D<<B,D<C.a").offers(D, 0), 1);
            is("not passed on at all", twenty().offers(0, 25), 0);
            is("one declaration with two names", made("A^,A.a,B<<A,B<<A.a=b").offers(B, 1), 1);
        });
        sentence("Throws `IndexOutOfBoundsException` if the scope does not exist", () -> {
            NameScopes x = new NameScopes();
            refusesEach("of a new object", x, INDEX, outside(0, 0), v -> x.offers(v, 0));
            NameScopes y = chain(16);
            refusesEach("of sixteen", y, INDEX, NO_SCOPES, v -> y.offers(v, 25));
        });
        sentence("Throws `IllegalArgumentException` if name is out of range", () -> {
            NameScopes x = made("A.a");
            refusesEach("name", x, ARGUMENT, NO_NAMES, v -> x.offers(0, v));
        });
        close();
    }

    private static void visible() {
        open("Promise 16:");
        sentence("Returns the names that can be resolved from a scope. - `scope`: the scope", () -> {
            NameScopes x = chain(16);
            x.declare(0, 0, false);
            x.declare(15, 25, false);
            is("first scope", x.visible(0, false), mask("a"));
            is("last scope", x.visible(15, false), mask("az"));
        });
        sentence("- `ambiguous`: false for the names that are resolved to a declaration, true for those that are "
                + "ambiguous", () -> {
            NameScopes x = ambiguous(false);
            is("the resolved ones", x.visible(D, false), 0);
            is("the ambiguous ones", x.visible(D, true), mask("a"));
            is("resolved elsewhere", x.visible(B, false), mask("a"));
            is("ambiguous elsewhere", x.visible(B, true), 0);
            NameScopes y = made("A^,B^,A.a,B.b,C?c");
            is("those that only have a use are neither", y.visible(C, false) * 100 + y.visible(C, true), 300);
        });
        sentence("Returns the names, as a bit mask.", () -> {
            is("none", new NameScopes().visible(0, false) + new NameScopes().visible(0, true), 0);
            NameScopes x = withDeclarations(30);
            is("all", x.visible(0, false), ALL_NAMES);
            is("all, some nearer", x.visible(1, false), ALL_NAMES);
            is("none is ambiguous", x.visible(1, true), 0);
            is("the last name", twenty().visible(0, true), 1 << 25);
        });
        sentence("Throws `IndexOutOfBoundsException` if the scope does not exist", () -> {
            NameScopes x = new NameScopes();
            refusesEach("of a new object", x, INDEX, outside(0, 0), v -> x.visible(v, false));
            NameScopes y = chain(16);
            refusesEach("of sixteen", y, INDEX, NO_SCOPES, v -> y.visible(v, true));
        });
        close();
    }

    private static void rename() {
        open("Promise 17:");
        sentence("Renames a declaration, unless it is refused. - `declaration`: its number - `name`: the new name, 0 to 25",
                () -> {
            NameScopes x = made("A^,A.b,B.b,A?b,B?b");
            is("the first one, to the first name", x.rename(0, 0), 0);
            is("the last one, to the last name", x.rename(1, 25), 0);
            holds("all as if told so", everything(x) == everything(made("A^,A.a,B.z,A?a,B?z")));
            is("to the name that is declared below it", x.rename(0, 25), 0);
            is("the other one stays", x.used(0, 2) * 10 + x.used(1, 2), 1);
        });
        sentence("Returns 0 if it was renamed; otherwise the reason for which it is refused.", () -> {
            NameScopes x = made("A^,A.a,A-b,B.c,A?d,B?a,B?e,A?f");
            int[] due = {1, 1, 2, 3, 3, 3, 0};
            for (int name = 0; name < 6; name++) {
                long before = everything(x);
                is("to " + name, x.rename(0, name), due[name]);
                holds("nothing is changed", everything(x) == before);
            }
            is("to 6", x.rename(0, 6), 0);
            holds("all as if told so", everything(x) == everything(made("A^,A.g,A-b,B.c,A?d,B?g,B?e,A?f")));
        });
        sentence("Throws `IndexOutOfBoundsException` if the declaration does not exist", () -> {
            NameScopes x = new NameScopes();
            refusesEach("none", x, INDEX, new int[] {LOW, -1, 0, 1, HIGH}, v -> x.rename(v, 0));
            NameScopes y = withDeclarations(30);
            refusesEach("of thirty", y, INDEX, outside(0, 29), v -> y.rename(v, 25));
        });
        sentence("Throws `IllegalArgumentException` if name is out of range", () -> {
            NameScopes x = made("A.a,A?a");
            refusesEach("name", x, ARGUMENT, NO_NAMES, v -> x.rename(0, v));
        });
        close();
    }

    private static void ifRenamed() {
        open("Promise 18:");
        sentence("Tells whether a declaration could be renamed. Nothing is changed. - `declaration`: its number - `name`: the "
                + "new name, 0 to 25", () -> {
            NameScopes x = full();
            long before = everything(x);
            for (int d = 0; d < 30; d++) {
                for (int name = 0; name < 26; name++) {
                    for (int what = 0; what <= 2; what++) {
                        x.ifRenamed(d, name, what);
                    }
                }
            }
            holds("nothing is changed", everything(x) == before);
            for (int d = 0; d < 30; d += 29) {
                for (int name = 0; name < 26; name++) {
                    NameScopes y = full();
                    is("as rename answers", y.ifRenamed(d, name, 0), y.rename(d, name));
                }
            }
        });
        says("- `what`:");
        sentence("0: the reason for which it would be refused, 0 if it would not;", () -> {
            NameScopes x = made("A^,A.a,A-b,B.c,A?d,B?a");
            int[] due = {1, 1, 2, 3, 0};
            for (int name = 0; name < 5; name++) {
                is("name " + name, x.ifRenamed(0, name, 0), due[name]);
            }
            is("the last name", x.ifRenamed(0, 25, 0), 0);
        });
        sentence("1: the lowest use by which this reason applies, NONE for the reasons 0 and 1;", () -> {
            NameScopes x = made("A^,A.a,A-b,B.c");
            for (int u = 0; u < 29; u++) {
                x.use(u == 28 ? B : A, u == 28 ? 0 : 25);
            }
            x.use(B, name('e'));
            is("reason 1, the same", x.ifRenamed(0, 0, 1), NONE);
            is("reason 1, another one", x.ifRenamed(0, 1, 1), NONE);
            is("reason 2", x.ifRenamed(0, 2, 1), 28);
            is("reason 3, the last use", x.ifRenamed(0, 4, 1), 29);
            is("reason 3, the first use", x.ifRenamed(0, 25, 1), 0);
            is("reason 0", x.ifRenamed(0, 5, 1), NONE);
            NameScopes y = made("A^,A.a,B.b,A?b,B?a,B?a");
            is("reason 2, though a lower use has reason 3", y.ifRenamed(0, 1, 1), 1);
            is("no use at all", made("A.a").ifRenamed(0, 1, 1), NONE);
        });
        sentence("2: how many uses would get the new name by rule 4, whether it would be refused or not (also if it is the "
                + "old one) Returns the number.", () -> {
            NameScopes x = made("A^,A.a,A-b,B.c,A?a,B?a,A?d,B<A.a=k,B?k");
            int[] names = {0, 1, 2, 3, 25};
            for (int name : names) {
                is("name " + name, x.ifRenamed(0, name, 2), 2);
            }
            is("a declaration without uses", x.ifRenamed(1, 25, 2), 0);
            is("of an ambiguous use", made("A^,A^,A^,B.a,C.a,D<B,D<C,D?a").ifRenamed(0, 25, 2), 0);
            NameScopes y = made("A.a");
            for (int u = 0; u < 30; u++) {
                y.use(0, 0);
            }
            is("all of thirty", y.ifRenamed(0, 25, 2), 30);
        });
        sentence("Throws `IndexOutOfBoundsException` if the declaration does not exist", () -> {
            NameScopes x = new NameScopes();
            refusesEach("none", x, INDEX, new int[] {LOW, -1, 0, 1, HIGH}, v -> x.ifRenamed(v, 0, 0));
            NameScopes y = withDeclarations(30);
            refusesEach("of thirty", y, INDEX, outside(0, 29), v -> y.ifRenamed(v, 25, 2));
        });
        sentence("Throws `IllegalArgumentException` if name or what is out of range", () -> {
            NameScopes x = made("A.a,A?a");
            for (int n = 0; n <= 2; n++) {
                int what = n;
                refusesEach("name", x, ARGUMENT, NO_NAMES, v -> x.ifRenamed(0, v, what));
            }
            refusesEach("what", x, ARGUMENT, outside(0, 2), v -> x.ifRenamed(0, 1, v));
            refusesEach("what, for a clash", x, ARGUMENT, outside(0, 2), v -> x.ifRenamed(0, 0, v));
        });
        close();
    }

    private static void freeName() {
        open("Promise 19:");
        sentence("Finds the lowest name to which a declaration can be renamed. - `declaration`: its number", () -> {
            is("the first name", made("A.z").freeName(0), 0);
            is("it is its own", made("A.a").freeName(0), 1);
            is("it is taken", made("A-a,A.z").freeName(1), 1);
            is("a use would be captured", made("A^,B.a,A.z,B?z").freeName(1), 1);
            is("a use would capture", made("A.z,A?a").freeName(0), 1);
            NameScopes x = withDeclarations(30);
            is("the last declaration", x.freeName(29), 4);
            is("nothing is changed", x.declaration(29, 1), 3);
        });
        sentence("Returns the name; NONE if each name would be refused.", () -> {
            NameScopes x = withDeclarations(25);
            is("only the last one is left", x.freeName(0), 25);
            x.use(0, 25);
            is("and it is used", x.freeName(0), NONE);
            NameScopes y = withDeclarations(26);
            for (int d = 0; d < 26; d++) {
                is("all are taken", y.freeName(d), NONE);
            }
            NameScopes z = made("A.m");
            for (int u = 0; u < 26; u++) {
                z.use(0, u);
            }
            is("all are used", z.freeName(0), NONE);
        });
        sentence("Throws `IndexOutOfBoundsException` if the declaration does not exist", () -> {
            NameScopes x = new NameScopes();
            refusesEach("none", x, INDEX, new int[] {LOW, -1, 0, 1, HIGH}, v -> x.freeName(v));
            NameScopes y = withDeclarations(30);
            refusesEach("of thirty", y, INDEX, outside(0, 29), v -> y.freeName(v));
        });
        close();
    }

    private static void count() {
        open("Promise 20:");
        says("Returns a number. - `what`:");
        sentence("0: scopes; 1: declarations; 2: imports; 3: uses;", () -> {
            int[] least = {1, 0, 0, 0};
            int[] most = {16, 30, 20, 30};
            for (int what = 0; what <= 3; what++) {
                is("least " + what, new NameScopes().count(what), least[what]);
                is("most " + what, full().count(what), most[what]);
            }
        });
        sentence("4: uses that are resolved to a declaration; 5: ambiguous uses;", () -> {
            NameScopes x = made("A^,A^,A^,B.a,C.a,D<B,D<C,A<B.a,A<C.a,D.b");
            is("no use", x.count(4) + x.count(5), 0);
            for (int u = 0; u < 10; u++) {
                x.use(D, 0);
                x.use(u < 7 ? A : D, u < 7 ? 0 : 24);
                x.use(D, u < 9 ? 1 : 25);
            }
            is("resolved", x.count(4), 9);
            is("ambiguous, 7 by single and 10 by full imports", x.count(5), 17);
            NameScopes y = made("A^,A.a");
            for (int u = 0; u < 30; u++) {
                y.use(B, 0);
            }
            is("all resolved", y.count(4) * 100 + y.count(5), 3000);
        });
        sentence("6: declarations to which no use is resolved;", () -> {
            is("no declaration", new NameScopes().count(6), 0);
            NameScopes x = withDeclarations(30);
            is("all", x.count(6), 30);
            x.use(1, 3);
            is("all but the last one", x.count(6), 29);
            x.use(1, 3);
            is("again", x.count(6), 29);
            x.use(0, 0);
            is("all but the first and the last one", x.count(6), 28);
            NameScopes y = ambiguous(true);
            y.use(D, 0);
            is("an ambiguous use is resolved to none", y.count(6), 2);
        });
        sentence("7: imports with imported(.., 7) = 0 (each of them alone);", () -> {
            is("no import", new NameScopes().count(7), 0);
            is("all", withImports(20).count(7), 20);
            NameScopes x = made("A^,A^,B.a,C<B,C<B,C?a");
            is("each of two that bring the same", x.count(7), 2);
            x.remove(1, 1);
            is("one alone", x.count(7), 0);
            x.remove(2, 0);
            is("without a use", x.count(7), 1);
        });
        sentence("8: single imports that bring no pair;", () -> {
            is("no import", new NameScopes().count(8), 0);
            is("half of twenty, the others are full ones", withImports(20).count(8), 10);
            NameScopes x = chain(2);
            for (int i = 0; i < 20; i++) {
                x.importOne(A, B, i, 25, true);
            }
            is("all", x.count(8), 20);
            x.declare(B, 19, false);
            is("a private one", x.count(8), 20);
            x.declare(B, 18, true);
            is("all but one", x.count(8), 19);
        });
        sentence("9: the greatest number of steps from a scope to scope 0;", () -> {
            is("scope 0 alone", new NameScopes().count(9), 0);
            is("one", made("A^,A^,A^").count(9), 1);
            is("not that of the last scope", made("A^,B^,C^,A^").count(9), 3);
            is("fifteen", chain(16).count(9), 15);
        });
        sentence("10: the sum, over all scopes, of the numbers of pairs that they offer Returns the number.", () -> {
            is("none", new NameScopes().count(10), 0);
            is("private ones", made("A-a,A-b").count(10), 0);
            is("one declaration with three names", made("A^,A.a,B<<A,B<<A.a=b").count(10), 3);
            NameScopes x = chain(16);
            for (int n = 0; n < 16; n++) {
                x.importAll(n, (n + 1) % 16, 0, true);
            }
            for (int n = 0; n < 26; n++) {
                x.declare(0, n, true);
            }
            is("all names by all scopes", x.count(10), 416);
        });
        sentence("Throws `IllegalArgumentException` if what is not 0 to 10", () -> {
            NameScopes x = made("A.a");
            refusesEach("what", x, ARGUMENT, outside(0, 10), v -> x.count(v));
        });
        close();
    }

    private static void declaration() {
        open("Promise 21:");
        says("Returns a property of a declaration. - `declaration`: its number - `what`:");
        sentence("0: its scope; 1: its name; 2: 1 if it is public, else 0;", () -> {
            NameScopes x = chain(16);
            x.declare(0, 25, true);
            x.declare(15, 0, false);
            int[][] due = {{0, 25, 1}, {15, 0, 0}};
            for (int d = 0; d < 2; d++) {
                for (int what = 0; what <= 2; what++) {
                    is("declaration " + d + " property " + what, x.declaration(d, what), due[d][what]);
                }
            }
            NameScopes y = withDeclarations(30);
            is("the last one", y.declaration(29, 0) * 100 + y.declaration(29, 1), 103);
        });
        sentence("3: the number of uses that are resolved to it;", () -> {
            NameScopes x = made("A^,A.a,B<A.a=z");
            is("none", x.declaration(0, 3), 0);
            for (int u = 0; u < 30; u++) {
                x.use(B, u % 2 == 0 ? 0 : 25);
            }
            is("all, by two names", x.declaration(0, 3), 30);
            NameScopes y = ambiguous(false);
            y.use(D, 0);
            is("an ambiguous one", y.declaration(0, 3) + y.declaration(1, 3), 0);
        });
        sentence("4: the number of scopes that offer it with some name;", () -> {
            is("a private one", made("A-a").declaration(0, 4), 0);
            is("a public one", made("A.a").declaration(0, 4), 1);
            is("by two names", made("A^,A.a,B<<A.a=b,B<<A.a=c").declaration(0, 4), 2);
            is("the last one", withDeclarations(30).declaration(29, 4), 1);
            NameScopes x = chain(16);
            x.declare(0, 0, true);
            for (int n = 1; n < 16; n++) {
                x.importOne(n, n - 1, n - 1, n, true);
            }
            is("by all scopes, by another name each", x.declaration(0, 4), 16);
        });
        sentence("5: the number of scopes from which its name is resolved to it Returns the property.", () -> {
            NameScopes x = chain(16);
            x.declare(0, 25, false);
            is("all", x.declaration(0, 5), 16);
            x.declare(15, 25, false);
            is("all but the last one", x.declaration(0, 5), 15);
            is("the last one", x.declaration(1, 5), 1);
            NameScopes y = ambiguous(true);
            is("not where it is ambiguous", y.declaration(0, 5), 1);
            NameScopes z = made("A^,A^,B.a,C<B.a=b");
            is("not by another name", z.declaration(0, 5), 1);
        });
        sentence("Throws `IndexOutOfBoundsException` if the declaration does not exist", () -> {
            NameScopes x = new NameScopes();
            refusesEach("none", x, INDEX, new int[] {LOW, -1, 0, 1, HIGH}, v -> x.declaration(v, 0));
            NameScopes y = withDeclarations(30);
            refusesEach("of thirty", y, INDEX, outside(0, 29), v -> y.declaration(v, 5));
        });
        sentence("Throws `IllegalArgumentException` if what is not 0 to 5", () -> {
            NameScopes x = made("A.a");
            refusesEach("what", x, ARGUMENT, outside(0, 5), v -> x.declaration(0, v));
        });
        close();
    }

    private static void imported() {
        open("Promise 22:");
        says("Returns a property of an import. - `number`: its number - `what`:");
        sentence("0: the scope into which it leads; 1: the scope from which it leads;", () -> {
            NameScopes x = chain(16);
            x.importOne(0, 15, 0, 0, true);
            x.importAll(15, 0, 0, true);
            is("single", x.imported(0, 0) * 100 + x.imported(0, 1), 15);
            is("full", x.imported(1, 0) * 100 + x.imported(1, 1), 1500);
            NameScopes y = withImports(20);
            is("the last one", y.imported(19, 0) * 100 + y.imported(19, 1), 1);
        });
        sentence("2: its source name, NONE for a full import; 3: its local name, NONE for a full import;", () -> {
            NameScopes x = made("A^,A<B.a=z,A<B.z=a,A<B,A<B/a");
            int[][] due = {{0, 25}, {25, 0}, {NONE, NONE}, {NONE, NONE}};
            for (int i = 0; i < 4; i++) {
                is("source name " + i, x.imported(i, 2), due[i][0]);
                is("local name " + i, x.imported(i, 3), due[i][1]);
            }
        });
        sentence("4: its excepted names as a bit mask, 0 for a single import; 5: 1 if it is passed on, else 0;", () -> {
            NameScopes x = made("A^,A<<B.z,A<B.a,A<<B,A<B/az");
            x.importAll(A, B, ALL_NAMES, true);
            int[][] due = {{0, 1}, {0, 0}, {0, 1}, {mask("az"), 0}, {ALL_NAMES, 1}};
            for (int i = 0; i < 5; i++) {
                is("excepted names " + i, x.imported(i, 4), due[i][0]);
                is("passed on " + i, x.imported(i, 5), due[i][1]);
            }
        });
        sentence("6: the number of pairs that it brings;", () -> {
            NameScopes x = withDeclarations(26);
            x.importAll(B, A, 0, false);
            x.importAll(B, A, ALL_NAMES, false);
            x.importOne(B, A, 25, 0, false);
            x.importOne(A, B, 0, 0, false);
            int[] due = {26, 0, 1, 0};
            for (int i = 0; i < 4; i++) {
                is("import " + i, x.imported(i, 6), due[i]);
            }
            NameScopes y = made("A^,A^,A^,B.a,C.a,D<<B,D<<C,A<D.a=z,A<D");
            is("two by one name, single", y.imported(2, 6), 2);
            is("two by one name, full", y.imported(3, 6), 2);
            NameScopes z = made("A^,A.a,B-a,B<<A");
            is("one that is hidden there", z.imported(0, 6), 1);
        });
        sentence("7: how many uses would have another outcome without it Returns the property.", () -> {
            NameScopes x = made("A^,A^,A^,B.a,C<<B,D<C.a,A-a,A?a");
            is("no use of it", x.imported(0, 7), 0);
            for (int u = 1; u < 30; u++) {
                x.use(u < 10 ? C : D, 0);
            }
            is("29, some by the other import", x.imported(0, 7), 29);
            is("20 of the other one", x.imported(1, 7), 20);
            is("nothing is changed", x.count(2), 2);
            x.importAll(D, B, 0, false);
            is("9 when there is another way", x.imported(0, 7), 9);
            is("none, since the other way is behind it", x.imported(1, 7), 0);
            is("none of the way behind", x.imported(2, 7), 0);
            NameScopes y = ambiguous(false);
            y.use(D, 0);
            is("an ambiguous use would be resolved", y.imported(0, 7), 1);
            NameScopes z = made("A^,A^,B.a,A<B,A<B.a");
            for (int u = 0; u < 30; u++) {
                z.use(C, 0);
            }
            is("none of thirty", z.imported(1, 7), 0);
            z.remove(1, 0);
            is("all of thirty", z.imported(0, 7), 30);
        });
        sentence("Throws `IndexOutOfBoundsException` if the import does not exist", () -> {
            NameScopes x = new NameScopes();
            refusesEach("none", x, INDEX, new int[] {LOW, -1, 0, 1, HIGH}, v -> x.imported(v, 0));
            NameScopes y = withImports(20);
            refusesEach("of twenty", y, INDEX, outside(0, 19), v -> y.imported(v, 7));
        });
        sentence("Throws `IllegalArgumentException` if what is not 0 to 7", () -> {
            NameScopes x = made("A^,A<B");
            refusesEach("what", x, ARGUMENT, outside(0, 7), v -> x.imported(0, v));
        });
        close();
    }

    private static void used() {
        open("Promise 23:");
        says("Returns a property of a use. - `number`: its number - `what`:");
        sentence("0: its scope; 1: its name;", () -> {
            NameScopes x = chain(16);
            x.use(0, 25);
            x.use(15, 0);
            is("first", x.used(0, 0) * 100 + x.used(0, 1), 25);
            is("second", x.used(1, 0) * 100 + x.used(1, 1), 1500);
            is("the last one", withUses(30).used(29, 0) * 100 + withUses(30).used(29, 1), 103);
        });
        sentence("2: the declaration to which it is resolved, NONE if it is unresolved or ambiguous;", () -> {
            NameScopes x = withDeclarations(30);
            is("the last one", x.used(x.use(1, 3), 2), 29);
            is("the first one", x.used(x.use(0, 0), 2), 0);
            x.remove(0, 0);
            is("unresolved", x.used(1, 2), NONE);
            for (int n = 0; n < 2; n++) {
                NameScopes y = ambiguous(n == 0);
                is("ambiguous", y.used(y.use(D, 0), 2), NONE);
            }
        });
        sentence("3: 0 if it is resolved, 1 if it is unresolved, 2 if it is ambiguous by single imports, 3 if it is "
                + "ambiguous by full imports Returns the property.", () -> {
            NameScopes x = made("A.a,A?a,A?b");
            is("resolved", x.used(0, 3), 0);
            is("unresolved", x.used(1, 3), 1);
            NameScopes y = ambiguous(true);
            is("by single imports", y.used(y.use(D, 0), 3), 2);
            y.importAll(D, B, 0, true);
            y.importAll(D, C, 0, true);
            is("full ones behind them", y.used(0, 3), 2);
            NameScopes z = ambiguous(false);
            is("by full imports", z.used(z.use(D, 0), 3), 3);
            z.addScope(D);
            is("by those of the parent", z.used(z.use(E, 0), 3), 3);
            is("by one single import of two", made("A^,A^,A^,B.a,C.a,D<<B,D<<C,A<D.a,A?a").used(0, 3), 2);
        });
        sentence("Throws `IndexOutOfBoundsException` if the use does not exist", () -> {
            NameScopes x = new NameScopes();
            refusesEach("none", x, INDEX, new int[] {LOW, -1, 0, 1, HIGH}, v -> x.used(v, 0));
            NameScopes y = withUses(30);
            refusesEach("of thirty", y, INDEX, outside(0, 29), v -> y.used(v, 3));
        });
        sentence("Throws `IllegalArgumentException` if what is not 0 to 3", () -> {
            NameScopes x = made("A?a");
            refusesEach("what", x, ARGUMENT, outside(0, 3), v -> x.used(0, v));
        });
        close();
    }

    private static void parent() {
        open("Promise 24:");
        sentence("Returns the parent of a scope. - `scope`: the scope Returns its parent;", () -> {
            NameScopes x = chain(16);
            for (int n = 1; n < 16; n++) {
                is("of scope " + n, x.parent(n), n - 1);
            }
            is("scope 0", made("A^,A^").parent(2), 0);
        });
        sentence("NONE for scope 0.", () -> {
            is("of a new object", new NameScopes().parent(0), NONE);
            is("of a full one", full().parent(0), NONE);
        });
        sentence("Throws `IndexOutOfBoundsException` if the scope does not exist", () -> {
            NameScopes x = new NameScopes();
            refusesEach("of a new object", x, INDEX, outside(0, 0), v -> x.parent(v));
            NameScopes y = chain(16);
            refusesEach("of sixteen", y, INDEX, NO_SCOPES, v -> y.parent(v));
            y.begin();
            refuses("one that was there before", y, INDEX, () -> y.parent(1));
        });
        close();
    }

    private static void resolvedShare() {
        open("Promise 25:");
        sentence("Returns the share of the uses that are resolved to a declaration. Returns their number, as a double, "
                + "divided by the number of uses;", () -> {
            NameScopes x = made("A.a");
            for (int u = 0; u < 30; u++) {
                x.use(0, u < 29 ? 25 : 0);
                is("of " + (u + 1), x.resolvedShare(), u < 29 ? 0.0 : 1.0 / 30.0);
            }
            x.rename(0, 1);
            is("after renaming", x.resolvedShare(), 1.0 / 30.0);
            x.declare(0, 25, true);
            is("all", x.resolvedShare(), 1.0);
            x.remove(0, 0);
            is("29 of 30", x.resolvedShare(), 29.0 / 30.0);
            NameScopes y = ambiguous(true);
            y.use(D, 0);
            y.use(B, 0);
            y.use(C, 0);
            is("two of three, one is ambiguous", y.resolvedShare(), 2.0 / 3.0);
        });
        sentence("1.0 if there are none.", () -> {
            is("of a new object", new NameScopes().resolvedShare(), 1.0);
            NameScopes x = made("A?a");
            is("an unresolved one", x.resolvedShare(), 0.0);
            x.remove(2, 0);
            is("none is left", x.resolvedShare(), 1.0);
        });
        close();
    }

    private static void digest() {
        open("Promise 26:");
        sentence("Computes a hash of the whole state. The hash starts at 1997.", () -> {
            is("a hash by hand", 31 * nothing() == new NameScopes().digest() ? 1 : 0, 1);
            NameScopes x = full();
            long before = x.digest();
            holds("asking changes nothing", x.digest() == before);
            holds("the same calls, the same hash", full().digest() == before);
        });
        sentence("For each value v of the following list, in order, the hash becomes 31 * hash + v, in long arithmetic with "
                + "overflow. The values are: count(0) to count(10); for each scope its parent, visible(scope, false) and "
                + "visible(scope, true); for each declaration its properties 0 to 5; for each import its properties 0 to 7; "
                + "for each use its properties 0 to 3; the length of the buffer and each of its character codes. Returns "
                + "the hash.", () -> {
            NameScopes[] objects = {new NameScopes(), full(), withDeclarations(30), withImports(20), withUses(30),
                made("A^,A^,A^,B.a,C.a,D<B,D<C,D?a"), twenty()};
            String[] buffers = {"", "A^,A.a,A?b,B<C.a=b,A^,A.a,A?b,B<C.a=b,A^,A.a,A?b,B", "", "", "!", "", "~~"};
            for (int n = 0; n < objects.length; n++) {
                if (n != 1) {
                    put(objects[n], buffers[n]);
                }
                BigInteger hash = exactHash(objects[n], buffers[n]);
                holds("object " + n, objects[n].digest() == hash.longValue());
                holds("it overflows", hash.bitLength() > 64);
            }
        });
        close();
    }

    /** The hash without an overflow, whose low bits are the digest. */
    private static BigInteger exactHash(NameScopes x, String buffer) {
        List<Integer> values = new ArrayList<>();
        for (int what = 0; what <= 10; what++) {
            values.add(x.count(what));
        }
        for (int scope = 0; scope < x.count(0); scope++) {
            values.addAll(List.of(x.parent(scope), x.visible(scope, false), x.visible(scope, true)));
        }
        for (int d = 0; d < x.count(1); d++) {
            for (int what = 0; what <= 5; what++) {
                values.add(x.declaration(d, what));
            }
        }
        for (int i = 0; i < x.count(2); i++) {
            for (int what = 0; what <= 7; what++) {
                values.add(x.imported(i, what));
            }
        }
        for (int u = 0; u < x.count(3); u++) {
            for (int what = 0; what <= 3; what++) {
                values.add(x.used(u, what));
            }
        }
        values.add(buffer.length());
        for (char c : buffer.toCharArray()) {
            values.add((int) c);
        }
        BigInteger hash = BigInteger.valueOf(1997);
        for (int v : values) {
            hash = hash.multiply(BigInteger.valueOf(31)).add(BigInteger.valueOf(v));
        }
        return hash;
    }

    public static void main(String[] args) {
        newObject();
        begin();
        addScope();
        declare();
        importOne();
        importAll();
        use();
        remove();
        append();
        clearBuffer();
        firstError();
        load();
        resolve();
        candidate();
        offers();
        visible();
        rename();
        ifRenamed();
        freeName();
        count();
        declaration();
        imported();
        used();
        parent();
        resolvedShare();
        digest();
        end();
    }
}
