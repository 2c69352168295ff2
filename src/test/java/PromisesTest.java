/** The promises of the document one by one: ordinary inputs, the edges that it names, and wrong inputs. */
public final class PromisesTest extends Checks {
    private static void newObject() {
        NameScopes x = new NameScopes();
        is("1 NONE", NameScopes.NONE, -1);
        is("1 scopes", x.count(0), 1);
        for (int what = 1; what <= 10; what++) {
            is("1 count " + what, x.count(what), 0);
        }
        is("1 parent", x.parent(0), -1);
        is("1 buffer", x.clearBuffer(), 0);
        is("1 another object is apart", made("A^,A.a").count(0) + new NameScopes().count(0), 3);
    }

    private static void begin() {
        NameScopes x = made("A^,A^,A.a,B<A,B?a");
        put(x, "A.b");
        is("2 scopes", x.begin(), 3);
        for (int what = 1; what <= 10; what++) {
            is("2 count " + what, x.count(what), 0);
        }
        is("2 again", x.begin(), 1);
        is("2 nothing visible", x.visible(0, false), 0);
        is("2 numbers from 0", x.addScope(0) * 10 + x.declare(1, 3, true), 10);
        is("2 the buffer stays", x.load(), 1);
    }

    private static void addScope() {
        NameScopes x = new NameScopes();
        refuses("3 own number", x, INDEX, () -> x.addScope(1));
        refuses("3 negative", x, INDEX, () -> x.addScope(-1));
        for (int n = 1; n < 16; n++) {
            is("3 number", x.addScope(n / 2), n);
            is("3 parent", x.parent(n), n / 2);
        }
        refuses("3 full", x, STATE, () -> x.addScope(0));
        refuses("3 full, last", x, STATE, () -> x.addScope(15));
        refuses("3 full and no parent", x, INDEX, () -> x.addScope(16));
        is("3 scopes", x.count(0), 16);
    }

    private static void declare() {
        NameScopes x = made("A^");
        is("4 first", x.declare(0, 0, true), 0);
        is("4 second", x.declare(1, 0, false), 1);
        is("4 third", x.declare(0, 25, false), 2);
        is("4 public", x.declaration(0, 2), 1);
        is("4 private", x.declaration(1, 2), 0);
        refuses("4 no scope", x, INDEX, () -> x.declare(2, 1, true));
        refuses("4 no scope, no name", x, INDEX, () -> x.declare(-1, 26, true));
        refuses("4 name 26", x, ARGUMENT, () -> x.declare(0, 26, true));
        refuses("4 name -1", x, ARGUMENT, () -> x.declare(0, -1, true));
        refuses("4 twice", x, ARGUMENT, () -> x.declare(1, 0, true));
        for (int n = 3; n < 30; n++) {
            is("4 number", x.declare(n % 2, n / 2, n % 3 == 0), n);
        }
        refuses("4 full", x, STATE, () -> x.declare(0, 24, true));
        refuses("4 full and twice", x, ARGUMENT, () -> x.declare(0, 25, true));
        refuses("4 full and no scope", x, INDEX, () -> x.declare(2, 25, true));
        x.remove(0, 0);
        is("4 after removing", x.declare(0, 0, true), 29);
    }

    private static void importOne() {
        NameScopes x = made("A^,A^");
        is("5 first", x.importOne(B, C, 25, 0, true), 0);
        is("5 second", x.importOne(C, A, 0, 25, false), 1);
        is("5 the same again", x.importOne(C, A, 0, 25, false), 2);
        refuses("5 into", x, INDEX, () -> x.importOne(3, A, 0, 0, true));
        refuses("5 from", x, INDEX, () -> x.importOne(A, -1, 0, 0, true));
        refuses("5 the same, which is none", x, INDEX, () -> x.importOne(3, 3, 26, 0, true));
        refuses("5 itself", x, ARGUMENT, () -> x.importOne(A, A, 0, 0, true));
        refuses("5 source", x, ARGUMENT, () -> x.importOne(A, B, 26, 0, true));
        refuses("5 source low", x, ARGUMENT, () -> x.importOne(A, B, -1, 0, true));
        refuses("5 local", x, ARGUMENT, () -> x.importOne(A, B, 0, 26, true));
        refuses("5 local low", x, ARGUMENT, () -> x.importOne(A, B, 0, -1, true));
        for (int n = 3; n < 20; n++) {
            is("5 number", x.importOne(A, B, n, n, n % 2 == 0), n);
        }
        refuses("5 full", x, STATE, () -> x.importOne(A, B, 0, 0, true));
        refuses("5 full and itself", x, ARGUMENT, () -> x.importOne(A, A, 0, 0, true));
        refuses("5 full and no scope", x, INDEX, () -> x.importOne(A, 3, 0, 0, true));
    }

    private static void importAll() {
        NameScopes x = made("A^,A^");
        is("6 first", x.importAll(B, C, (1 << 26) - 1, true), 0);
        is("6 second", x.importAll(C, B, 0, false), 1);
        is("6 excepted", x.imported(0, 4), 67108863);
        refuses("6 into", x, INDEX, () -> x.importAll(-1, A, 0, true));
        refuses("6 from", x, INDEX, () -> x.importAll(A, 3, -1, true));
        refuses("6 itself", x, ARGUMENT, () -> x.importAll(C, C, 0, true));
        refuses("6 negative", x, ARGUMENT, () -> x.importAll(A, B, -1, true));
        refuses("6 lowest", x, ARGUMENT, () -> x.importAll(A, B, LOW, true));
        refuses("6 bit 26", x, ARGUMENT, () -> x.importAll(A, B, 1 << 26, true));
        refuses("6 bit 30", x, ARGUMENT, () -> x.importAll(A, B, 1 << 30 | 1, true));
        for (int n = 2; n < 20; n++) {
            is("6 number", x.importAll(A, B, n, false), n);
        }
        refuses("6 full", x, STATE, () -> x.importAll(A, B, 0, true));
        refuses("6 full and a bad mask", x, ARGUMENT, () -> x.importAll(A, B, 1 << 27, true));
    }

    private static void importsTakeEffect() {
        NameScopes x = made("A^,A^,A^,B.a,B.b,B.z,D?b,D?z,C?b,D?k");
        x.importOne(C, B, name('b'), name('k'), false);
        is("5 brought", x.resolve(C, name('k'), 0), 1);
        is("5 not passed on", x.offers(C, name('k')) + x.imported(0, 5), 0);
        is("5 no excepted names", x.imported(0, 4), 0);
        x.importOne(C, B, name('b'), name('k'), true);
        is("5 passed on", x.offers(C, name('k')) * 10 + x.imported(1, 5), 11);
        x.importAll(D, C, 0, false);
        is("6 brought", x.used(3, 2), 1);
        is("6 not passed on", x.offers(D, name('k')) + x.imported(2, 5), 0);
        x.importAll(C, B, mask("b"), true);
        is("6 passed on", x.offers(C, name('a')) * 10 + x.imported(3, 5), 11);
        is("6 but for the excepted one", x.offers(C, name('b')), 0);
        is("6 resolved by two imports", x.used(1, 2), 2);
        is("6 excepted", x.used(2, 3), 1);
    }

    private static void use() {
        NameScopes x = made("A^");
        refuses("7 no scope", x, INDEX, () -> x.use(2, 0));
        refuses("7 no scope, no name", x, INDEX, () -> x.use(-1, 99));
        refuses("7 name 26", x, ARGUMENT, () -> x.use(0, 26));
        refuses("7 name -1", x, ARGUMENT, () -> x.use(0, -1));
        for (int n = 0; n < 30; n++) {
            is("7 number", x.use(n % 2, n % 26), n);
        }
        refuses("7 full", x, STATE, () -> x.use(0, 0));
        refuses("7 full and no name", x, ARGUMENT, () -> x.use(0, 26));
        is("7 scope", x.used(27, 0), 1);
        is("7 name", x.used(27, 1), 1);
    }

    private static void remove() {
        NameScopes x = made("A^,A^,A.a,B.a,C.b,B?a,C?a,C?b,A?a", "C<B");
        is("8 own declaration", x.used(1, 2), 1);
        is("8 another one comes, and another import's end", x.remove(0, 1), 2);
        is("8 the later number decreases", x.declaration(1, 1), name('b'));
        is("8 parent's", x.used(0, 2), 0);
        is("8 use 2 is the same", x.used(2, 2), 1);
        is("8 first of all", x.remove(0, 0), 3);
        is("8 the rest", x.used(2, 2), 0);
        is("8 an import without effect", x.remove(1, 0), 0);
        is("8 a use", x.remove(2, 0), 0);
        is("8 uses left", x.count(3), 3);
        is("8 the later use", x.used(1, 1), name('b'));
        refuses("8 sort 3", x, ARGUMENT, () -> x.remove(3, 0));
        refuses("8 sort -1, no number", x, ARGUMENT, () -> x.remove(-1, -1));
        refuses("8 no declaration", x, INDEX, () -> x.remove(0, 1));
        refuses("8 no import", x, INDEX, () -> x.remove(1, 0));
        refuses("8 no use", x, INDEX, () -> x.remove(2, 3));
        refuses("8 negative", x, INDEX, () -> x.remove(2, -1));

        NameScopes y = made("A^,A^,A^,A^,B.a,C.a,D.a,E<B,E<C,E<D,E?a,E?b");
        is("8 another set is another outcome", y.remove(0, 2), 1);
        is("8 still ambiguous", y.used(0, 3), 3);
        is("8 an import of nothing", y.remove(1, 2), 0);
        is("8 an import", y.remove(1, 0), 1);
        is("8 now resolved", y.used(0, 2), 1);
        NameScopes z = made("A^,A^,A^,B.a,C.a,D.z,D<B,D<C,D?a,D?z");
        is("8 not the use of a later one", z.remove(0, 0), 1);
        NameScopes w = made("A.z,A^,A^,A^,B.a,C.a,D<B,D<C,D?a");
        is("8 ambiguous between the same, renumbered", w.remove(0, 0), 0);
    }

    private static void removeMovesAll() {
        NameScopes x = made("A^,A^,A.m,B-n,C.o,B?n,C?o,A?m,A<B.p=q,B<<C/rs,C<A");
        x.remove(0, 0);
        int[][] declarations = {{1, name('n'), 0}, {2, name('o'), 1}};
        for (int d = 0; d < 2; d++) {
            for (int what = 0; what < 3; what++) {
                is("8 declaration " + d + " property " + what, x.declaration(d, what), declarations[d][what]);
            }
        }
        x.remove(1, 0);
        int[][] imports = {{1, 2, -1, -1, mask("rs"), 1}, {2, 0, -1, -1, 0, 0}};
        for (int i = 0; i < 2; i++) {
            for (int what = 0; what < 6; what++) {
                is("8 import " + i + " property " + what, x.imported(i, what), imports[i][what]);
            }
        }
        x.remove(2, 1);
        is("8 first use", x.used(0, 0) * 26 + x.used(0, 1), 26 + name('n'));
        is("8 second use", x.used(1, 0) * 26 + x.used(1, 1), name('m'));
        x.remove(2, 1);
        x.remove(0, 1);
        x.remove(1, 1);
        is("8 the last ones", x.count(1) * 100 + x.count(2) * 10 + x.count(3), 111);
    }

    private static void append() {
        NameScopes x = new NameScopes();
        refuses("9 32", x, ARGUMENT, () -> x.append(32));
        refuses("9 127", x, ARGUMENT, () -> x.append(127));
        is("9 33", x.append(33), 1);
        is("9 126", x.append(126), 2);
        for (int n = 3; n <= 50; n++) {
            is("9 length", x.append('a'), n);
        }
        refuses("9 full", x, STATE, () -> x.append('a'));
        refuses("9 full and no code", x, ARGUMENT, () -> x.append(-1));
    }

    private static void clearBuffer() {
        NameScopes x = new NameScopes();
        put(x, "A.b,,,");
        is("10 length", x.clearBuffer(), 6);
        is("10 again", x.clearBuffer(), 0);
        is("10 appending anew", x.append('A'), 1);
        is("10 declarations stay", made("A.a").clearBuffer(), 0);
    }

    private static void firstError() {
        String[] fine = {"", "A", "P", "A^", "A^,", "A.", "A.a", "A-z", "P?m,B", "A<", "A<<", "A<B", "A<<B", "A<A",
            "A<B.", "A<B.c", "A<B.c=", "A<B.c=d", "A<B/", "A<B/a", "A<B/aab", "A<B/abc,C?a", "A<B,C<<D.a=b,E^",
            "A<B/abcdefghijklmnopqrstuvwxyzabcdefghijklmnopqrst", "P<P,P?z,P.z,P-a,P^,A^,A<B,"};
        for (String text : fine) {
            NameScopes x = new NameScopes();
            put(x, text);
            is("11 " + text, x.firstError(), text.length());
        }
        String[] bad = {"Q", "a", ",", "AB", "A,", "A^^", "A^.", "A^a", "A.A", "A.aa", "A..", "A?,", "A-^", "A<<<", "A<Q",
            "A<a", "A<.", "A<<,", "A<BC", "A<B<", "A<B=", "A<Ba", "A<B.A", "A<B.cd", "A<B.c/", "A<B.c==", "A<B.c=D",
            "A<B.c=d=", "A<B.c=de", "A<B/,", "A<B/A", "A<B/a.", "A<B/a=", "A<B/a/", "A^,,", "A^,a", "A=", "@", "A.`",
            "A.{", "A<B/{", "A~"};
        for (String text : bad) {
            NameScopes x = new NameScopes();
            put(x, text);
            is("11 " + text, x.firstError(), text.length() - 1);
            x.append('A');
            is("11 " + text + "A", x.firstError(), text.length() - 1);
        }
    }

    private static void loadsItems() {
        NameScopes x = new NameScopes();
        put(x, "A^,B^,A.a,C-z,B?a,A<B.a=b,B<<A.c,C<A,C<<B/abba");
        is("12 items", x.load(), 9);
        is("12 the buffer is empty", x.clearBuffer(), 0);
        is("12 counts", x.count(0) * 1000 + x.count(1) * 100 + x.count(2) * 10 + x.count(3), 3241);
        is("12 parents", x.parent(1) * 10 + x.parent(2), 1);
        is("12 public", x.declaration(0, 2), 1);
        is("12 private", x.declaration(1, 2), 0);
        is("12 name", x.declaration(1, 1), 25);
        is("12 use", x.used(0, 0) * 100 + x.used(0, 1), 100);
        int[][] due = {{0, 1, 0, 1, 0, 0}, {1, 0, 2, 2, 0, 1}, {2, 0, -1, -1, 0, 0}, {2, 1, -1, -1, 3, 1}};
        for (int i = 0; i < 4; i++) {
            for (int what = 0; what < 6; what++) {
                is("12 import " + i + " property " + what, x.imported(i, what), due[i][what]);
            }
        }
        NameScopes y = new NameScopes();
        put(y, "A^,A^,A^,A^,A^,A^,A^,A^,A^,A^,A^,A^,A^,A^,A^,O.z");
        is("12 fifty", y.load(), 16);
        put(y, "P^");
        refuses("12 a scope too many", y, STATE, y::load);
    }

    private static void loadRefuses() {
        String[] incomplete = {"", "A", "A^,", "A.", "A<", "A<<", "A<B.", "A<B.a=", "A<B/", "A^,B", ",A^", "A^^", "A.a;"};
        for (String text : incomplete) {
            NameScopes x = made("A^");
            put(x, text);
            refuses("12 incomplete " + text, x, ARGUMENT, x::load);
            is("12 it stays", x.clearBuffer(), text.length());
        }
        String[] impossible = {"C^", "C.a", "A.b,A-b", "A.a", "C?a", "A<A", "A<A.b", "A<C", "C<<A.b", "A^,C^,A.b,C.b,B?b,E.a"};
        for (String text : impossible) {
            NameScopes x = made("A^,A.a,B?a,B<A");
            put(x, text);
            refuses("12 impossible " + text, x, STATE, x::load);
            is("12 it stays", x.clearBuffer(), text.length());
            is("12 the next number", x.addScope(0), 2);
            is("12 the next declaration", x.declare(0, 1, true), 1);
        }
        NameScopes x = made("A^,A^");
        put(x, "D.a,");
        refuses("12 incomplete and impossible", x, ARGUMENT, x::load);
        x.clearBuffer();
        put(x, "C^,D.a,D?a,A<D.a");
        is("12 a scope of the same text", x.load(), 4);
        is("12 resolved", x.used(0, 2), 0);
    }

    private static void offering() {
        NameScopes x = made("A^,A^,A^,B.a,B-b,B.c,C<<B,D<B", "D<<C.a=x,D<<C.c=a,C.c");
        is("15 public", x.offers(B, name('a')), 1);
        is("15 private", x.offers(B, name('b')), 0);
        is("15 passed on", x.offers(C, name('a')), 1);
        is("15 own instead of passed on", x.offers(C, name('c')), 1);
        is("15 by a local name", x.offers(D, name('x')), 1);
        is("15 a local name that another import has", x.offers(D, name('a')), 1);
        is("15 not passed on", x.offers(D, name('c')), 0);
        is("15 sum of pairs", x.count(10), 6);
        is("15 which one", x.candidate(D, name('a'), 0, 0), 3);
        NameScopes y = made("A^,A^,A^,B.a,C-a,C<<B,D<C,D?a");
        is("15 a private one hides what is passed on", y.offers(C, 0), 0);
        is("15 and so it is not brought", y.used(0, 3), 1);
        is("15 but there is a hidden layer", y.resolve(C, 0, 4), 1);
        NameScopes z = made("A^,A^,A^,B.a,C.a,D<<B,D<<C");
        is("15 several", z.offers(D, 0), 2);
        refuses("15 no scope", z, INDEX, () -> z.offers(4, -1));
        refuses("15 no name", z, ARGUMENT, () -> z.offers(0, 26));
        refuses("15 negative name", z, ARGUMENT, () -> z.offers(0, -1));
    }

    private static void circles() {
        NameScopes x = made("A^,A^,A^,B<<C,C<<D,D<<B,B?a");
        is("15 nothing comes of a circle", x.count(10), 0);
        x.declare(D, 0, true);
        is("15 all round", x.count(10), 3);
        is("15 by way of a circle", x.used(0, 2), 0);
        is("15 its own pair comes back, as a hidden layer", x.resolve(D, 0, 4), 1);
        NameScopes y = made("A^,A^,B<<C.a=b,C<<B.b=c,B<<C.c=d,C<<B.d=a,C.e", "C<<B.e=a");
        is("15 a chain of local names that begins nowhere", y.count(10), 1);
        y.declare(B, name('e'), true);
        is("15 a chain of local names", y.count(10), 6);
        is("15 its end", y.candidate(B, name('d'), 0, 0), 1);
    }

    private static void resolve() {
        NameScopes x = made("A^,B^,A.a,B.a,C.a,A^,D.b,A^,E.b,C<D,C<E,B<D.b");
        is("13 own", x.resolve(C, 0, 0), 2);
        is("13 own, size", x.resolve(C, 0, 1), 1);
        is("13 own, sort", x.resolve(C, 0, 2), 0);
        is("13 own, steps", x.resolve(C, 0, 3), 0);
        is("13 own, hidden", x.resolve(C, 0, 4), 2);
        is("13 ambiguous", x.resolve(C, 1, 0), -1);
        is("13 ambiguous, size", x.resolve(C, 1, 1), 2);
        is("13 ambiguous, sort", x.resolve(C, 1, 2), 2);
        is("13 ambiguous, hidden", x.resolve(C, 1, 4), 1);
        is("13 single", x.resolve(B, 1, 0), 3);
        is("13 single, sort", x.resolve(B, 1, 2), 1);
        int[] unresolved = {-1, 0, -1, -1, 0};
        for (int what = 0; what < 5; what++) {
            is("13 unresolved " + what, x.resolve(C, 25, what), unresolved[what]);
        }
        x.remove(0, 2);
        is("13 parent's, steps", x.resolve(C, 0, 3), 1);
        x.remove(0, 1);
        is("13 grandparent's, steps", x.resolve(C, 0, 3), 2);
        is("13 of another branch", x.resolve(D, 0, 3), 1);
        NameScopes y = made("A^,A^,B.a,C<B,C<B.a,C<B.a,C-a");
        is("13 three sorts", y.resolve(C, 0, 4), 2);
        is("13 own private", y.resolve(C, 0, 0), 1);
        y.remove(0, 1);
        is("13 one declaration brought twice", y.resolve(C, 0, 0), 0);
        is("13 single before full", y.resolve(C, 0, 2), 1);
        refuses("13 no scope", y, INDEX, () -> y.resolve(3, 26, 5));
        refuses("13 negative scope", y, INDEX, () -> y.resolve(-1, 0, 0));
        refuses("13 no name", y, ARGUMENT, () -> y.resolve(0, 26, 0));
        refuses("13 negative name", y, ARGUMENT, () -> y.resolve(0, -1, 0));
        refuses("13 what 5", y, ARGUMENT, () -> y.resolve(0, 0, 5));
        refuses("13 what -1", y, ARGUMENT, () -> y.resolve(0, 0, -1));
    }

    private static void deepScopes() {
        NameScopes x = made("A^,B^,C^,D^,E^,F^,G^,H^,I^,J^,K^,L^,M^,N^,O^,A.z", "P?z,B.y,A<B.y");
        is("13 fifteen steps", x.resolve(15, 25, 3), 15);
        is("13 resolved from there", x.used(0, 2), 0);
        is("13 and hidden there", x.resolve(15, 24, 4), 1);
        is("14 a layer of scope 0", x.candidate(15, 24, 1, 0), 1);
        is("20 the greatest number of steps", x.count(9), 15);
        is("21 seen from all scopes", x.declaration(0, 5), 16);
        x.remove(0, 0);
        is("13 unresolved from there", x.used(0, 3), 1);
    }

    private static void candidate() {
        NameScopes x = made("A^,A^,A^,D.a,C.a,B.a,A.a,D<C,D<B,D<C.a", "A^,A^,E.a,F.a,D<E,D<F");
        int[][] due = {{0, -1, -1, -1}, {1, -1, -1, -1}, {1, 2, 4, 5}, {3, -1, -1, -1}, {-1, -1, -1, -1}};
        for (int layer = 0; layer < 5; layer++) {
            for (int index = 0; index < 4; index++) {
                is("14 layer " + layer + " index " + index, x.candidate(D, 0, layer, index), due[layer][index]);
            }
        }
        is("14 beyond", x.candidate(D, 0, 2, 4), -1);
        is("14 negative layer", x.candidate(D, 0, -1, 0), -1);
        is("14 lowest layer", x.candidate(D, 0, LOW, 0), -1);
        is("14 highest layer", x.candidate(D, 0, HIGH, 0), -1);
        is("14 negative index", x.candidate(D, 0, 2, -1), -1);
        is("14 lowest index", x.candidate(D, 0, 2, LOW), -1);
        is("14 highest index", x.candidate(D, 0, 2, HIGH), -1);
        refuses("14 no scope", x, INDEX, () -> x.candidate(6, -1, 0, 0));
        refuses("14 no name", x, ARGUMENT, () -> x.candidate(0, 26, 0, 0));
        refuses("14 negative name", x, ARGUMENT, () -> x.candidate(0, -1, -1, -1));
    }

    private static void visible() {
        NameScopes x = made("A^,A^,A^,B.a,B.z,C.a,C-b,D<B,D<C,A.c,A-m");
        is("16 resolved", x.visible(D, false), mask("zcm"));
        is("16 ambiguous", x.visible(D, true), mask("a"));
        is("16 scope 0", x.visible(A, false), mask("cm"));
        is("16 none", x.visible(A, true), 0);
        is("16 own", x.visible(C, false), mask("abcm"));
        refuses("16 no scope", x, INDEX, () -> x.visible(4, true));
        refuses("16 negative", x, INDEX, () -> x.visible(-1, false));
    }

    private static void renameRules() {
        NameScopes x = made("A^,A^,A^,B.a,C<<B.a,D<B.a=k,D<C/ac,B?a", "C?a,D?k,D?a,A?a,D<C.a");
        is("17 none of these is the name yet", x.used(3, 2), 0);
        is("18 uses to rename", x.ifRenamed(0, name('y'), 2), 3);
        is("18 uses to rename, the old name", x.ifRenamed(0, name('a'), 2), 3);
        long before = x.digest();
        is("18 none refused", x.ifRenamed(0, name('y'), 0), 0);
        is("18 no use", x.ifRenamed(0, name('y'), 1), -1);
        is("18 nothing is changed", before == x.digest() ? 1 : 0, 1);
        is("17 renamed", x.rename(0, name('y')), 0);
        is("17 the name", x.declaration(0, 1), name('y'));
        is("17 source", x.imported(0, 2), name('y'));
        is("17 local that is the name", x.imported(0, 3), name('y'));
        is("17 source of another local", x.imported(1, 2), name('y'));
        is("17 the local stays", x.imported(1, 3), name('k'));
        is("17 excepted too", x.imported(2, 4), mask("acy"));
        is("17 a full import has no names", x.imported(2, 2) + x.imported(2, 3), -2);
        is("17 through a passed import", x.imported(3, 2) * 26 + x.imported(3, 3), name('y') * 27);
        is("17 its use", x.used(0, 1), name('y'));
        is("17 a use by import", x.used(1, 1), name('y'));
        is("17 a use of the local name", x.used(2, 1), name('k'));
        is("17 a use of a single import", x.used(3, 1), name('y'));
        is("17 an unresolved use", x.used(4, 1), name('a'));
        is("17 still resolved", x.count(4), 4);
        refuses("17 no declaration", x, INDEX, () -> x.rename(1, 26));
        refuses("17 negative", x, INDEX, () -> x.rename(-1, 0));
        refuses("17 no name", x, ARGUMENT, () -> x.rename(0, 26));
        refuses("17 negative name", x, ARGUMENT, () -> x.rename(0, -1));
    }

    private static void renameLaterOne() {
        NameScopes x = made("A^,A^,A^,A.m,B.n,B.o,C<<B.o,C<B/no,D<C.o=p,D<C/o", "B?o,C?o,D?p,D?o,A?m,D<C.n");
        is("17 renamed", x.rename(2, name('z')), 0);
        is("17 source", x.imported(0, 2) * 26 + x.imported(0, 3), 25 * 27);
        is("17 excepted", x.imported(1, 4), mask("noz"));
        is("17 source through a passed import", x.imported(2, 2) * 26 + x.imported(2, 3), 25 * 26 + name('p'));
        is("17 excepted through a passed import", x.imported(3, 4), mask("oz"));
        is("17 another source", x.imported(4, 2) * 26 + x.imported(4, 3), name('n') * 27);
        is("17 uses", x.used(0, 1) + x.used(1, 1), 50);
        is("17 other uses", x.used(2, 1) * 26 + x.used(3, 1), name('p') * 26 + name('o'));
        is("17 other declarations", x.declaration(0, 1) * 26 + x.declaration(1, 1), name('m') * 26 + name('n'));
    }

    private static void renameSpares() {
        NameScopes x = made("A^,A^,A^,B.a,C.a,D<C.a,D<B.b=a,D<C/a,D<B/b,A<C.b=a");
        is("17 renamed", x.rename(0, name('y')), 0);
        is("17 an import from elsewhere", x.imported(0, 2) * 26 + x.imported(0, 3), 0);
        is("17 an import of another name", x.imported(1, 2) * 26 + x.imported(1, 3), 26);
        is("17 excepted elsewhere", x.imported(2, 4), mask("a"));
        is("17 it is not excepted", x.imported(3, 4), mask("b"));
        NameScopes y = made("A^,A^,B-a,C<B.a,C<B/a,B?a,C?a");
        is("17 a private one", y.rename(0, 1), 0);
        is("17 it is not brought", y.imported(0, 2), 0);
        is("17 it is not offered", y.imported(1, 4), mask("a"));
        is("17 a use", y.used(0, 1), 1);
        is("17 no use of it", y.used(1, 1), 0);
        NameScopes z = made("A^,A^,A^,B.a,C.a,D<B.a,D<C.a,D?a");
        is("17 an ambiguous use keeps its name, so it would change", z.rename(0, 1), 3);
        is("17 the lowest use", z.ifRenamed(0, 1, 1), 0);
        NameScopes w = made("A^,A^,B.a,C<B.a=b,C<B.b=a,A?c");
        is("17 only the source name counts", w.rename(0, 2), 0);
        is("17 source", w.imported(0, 2) * 26 + w.imported(0, 3), 2 * 26 + 1);
        is("17 of no effect", w.imported(1, 2) * 26 + w.imported(1, 3), 26);
    }

    private static void renameClash() {
        NameScopes x = made("A^,A.a,A-b,B.c,A?a,B?c");
        is("17 the same", x.rename(0, 0), 1);
        is("17 taken", x.rename(0, 1), 1);
        is("17 taken, by a public one", x.rename(1, 0), 1);
        is("18 clash", x.ifRenamed(0, 1, 0), 1);
        is("18 clash has no use", x.ifRenamed(0, 1, 1), -1);
        is("18 uses for a clash", x.ifRenamed(0, 1, 2), 1);
        is("17 nothing changed", x.declaration(0, 1) + x.used(0, 1), 0);
        NameScopes y = made("A^,A.a,B.b,B?a,B.c");
        is("17 a clash goes before a capture", y.rename(1, name('c')), 1);
    }

    private static void renameCaptured() {
        NameScopes x = made("A^,A.a,B.b,A?a,B?b,B?a,B?a");
        is("17 captured", x.rename(0, 1), 2);
        is("18 captured", x.ifRenamed(0, 1, 0), 2);
        is("18 the lowest use", x.ifRenamed(0, 1, 1), 2);
        is("18 uses that would get the name", x.ifRenamed(0, 1, 2), 3);
        is("17 nothing changed", x.declaration(0, 1) + x.used(2, 1), 0);
        is("17 capturing", made("A^,A.a,B.b,B?a").rename(1, 0), 3);
        NameScopes y = made("A^,A.a,B.b,A?c,B?a,B?b");
        is("17 capturing a use of the outer one", y.rename(1, 0), 3);
        is("18 the lowest use", y.ifRenamed(1, 0, 1), 1);
        is("18 uses that would get the name", y.ifRenamed(1, 0, 2), 1);
        NameScopes z = made("A^,A.a,B.b,B?c,B?b,B?a");
        is("17 an unresolved use is captured by it", z.rename(0, 2), 3);
        is("18 by the lowest use", z.ifRenamed(0, 2, 1), 0);
        NameScopes w = made("A^,A^,A.a,B.b,B?a,A?b,C?a");
        is("17 both reasons: captured counts", w.rename(0, 1), 2);
        is("18 and its own lowest use", w.ifRenamed(0, 1, 1), 0);
        NameScopes v = made("A^,A^,A^,B.a,C<<B/b,D<C.a=k,D?k");
        is("17 a use of another name is captured, too", v.rename(0, 1), 2);
        is("18 that use", v.ifRenamed(0, 1, 1), 0);
        is("18 which would not get the name", v.ifRenamed(0, 1, 2), 0);
    }

    private static void ifRenamedRefuses() {
        NameScopes x = made("A.a");
        refuses("18 no declaration", x, INDEX, () -> x.ifRenamed(1, 26, 3));
        refuses("18 negative", x, INDEX, () -> x.ifRenamed(-1, 0, 0));
        refuses("18 no name", x, ARGUMENT, () -> x.ifRenamed(0, 26, 0));
        refuses("18 negative name", x, ARGUMENT, () -> x.ifRenamed(0, -1, 0));
        refuses("18 what 3", x, ARGUMENT, () -> x.ifRenamed(0, 0, 3));
        refuses("18 what -1", x, ARGUMENT, () -> x.ifRenamed(0, 0, -1));
    }

    private static void freeName() {
        NameScopes x = made("A^,A.a,A.b,B.c,B?a,A?d");
        long before = x.digest();
        is("19 not its own, not taken, not captured, not capturing", x.freeName(0), name('e'));
        is("19 the lowest", x.freeName(2), name('b'));
        is("19 nothing is changed", before == x.digest() ? 1 : 0, 1);
        NameScopes y = made("A.m");
        is("19 name 0", y.freeName(0), 0);
        for (int n = 0; n < 25; n++) {
            if (n != name('m')) {
                y.declare(0, n, false);
            }
        }
        is("19 the last name", y.freeName(3), 25);
        y.declare(0, 25, true);
        is("19 none", y.freeName(3), -1);
        refuses("19 no declaration", y, INDEX, () -> y.freeName(26));
        refuses("19 negative", y, INDEX, () -> y.freeName(-1));
    }

    private static NameScopes sample() {
        return made("A^,A^,C^,A.a,B.a,B.b,C.b,D-c,A<B.b,A<B.q", "D<<B,D<<C,D?b,D?a,D?c,C?z,A?b,B?b,A?q,B<C.b=v");
    }

    private static void count() {
        NameScopes x = sample();
        int[] due = {4, 5, 5, 7, 4, 1, 2, 2, 1, 2, 7};
        for (int what = 0; what <= 10; what++) {
            is("20 count " + what, x.count(what), due[what]);
        }
        refuses("20 what 11", x, ARGUMENT, () -> x.count(11));
        refuses("20 what -1", x, ARGUMENT, () -> x.count(-1));
        is("20 a first single import that brings nothing", made("A^,A<B.a,B-a,A<B").count(8), 1);
        NameScopes y = made("A^,A^,B.a,C<B,C<B,C?a");
        is("20 each import alone", y.count(7), 2);
        NameScopes z = made("A^,A^,A^,B.a,C.a,D<B.a,D<C.a,D?a,A-a,A?a");
        is("20 ambiguous by single imports", z.count(5), 1);
        is("20 an ambiguous use is of none of them", z.count(6), 2);
    }

    private static void declaration() {
        NameScopes x = sample();
        int[][] due = {{0, 0, 1, 0, 1, 2}, {1, 0, 1, 1, 2, 2}, {1, 1, 1, 2, 2, 2}, {2, 1, 1, 0, 2, 1}, {3, 2, 0, 1, 0, 1}};
        for (int d = 0; d < 5; d++) {
            for (int what = 0; what <= 5; what++) {
                is("21 declaration " + d + " property " + what, x.declaration(d, what), due[d][what]);
            }
        }
        refuses("21 no declaration", x, INDEX, () -> x.declaration(5, 6));
        refuses("21 negative", x, INDEX, () -> x.declaration(-1, 0));
        refuses("21 what 6", x, ARGUMENT, () -> x.declaration(0, 6));
        refuses("21 what -1", x, ARGUMENT, () -> x.declaration(0, -1));
        NameScopes y = made("A^,A^,B.a,C<<B.a=b,C<<B.a=c,C?b");
        is("21 offered twice by one scope", y.declaration(0, 4), 2);
        is("21 a use by another name", y.declaration(0, 3), 1);
        is("21 seen by its own name", y.declaration(0, 5), 1);
    }

    private static void imported() {
        NameScopes x = sample();
        int[][] due = {{0, 1, 1, 1, 0, 0, 1, 1}, {0, 1, 16, 16, 0, 0, 0, 0}, {3, 1, -1, -1, 0, 1, 2, 2},
            {3, 2, -1, -1, 0, 1, 1, 1}, {1, 2, 1, 21, 0, 0, 1, 0}};
        for (int i = 0; i < 5; i++) {
            for (int what = 0; what <= 7; what++) {
                is("22 import " + i + " property " + what, x.imported(i, what), due[i][what]);
            }
        }
        refuses("22 no import", x, INDEX, () -> x.imported(5, 8));
        refuses("22 negative", x, INDEX, () -> x.imported(-1, 0));
        refuses("22 what 8", x, ARGUMENT, () -> x.imported(0, 8));
        refuses("22 what -1", x, ARGUMENT, () -> x.imported(0, -1));
        NameScopes y = made("A^,A^,A^,B.a,B.b,B.c,C<<B/bz,D<C,D?a,D?c,C?b");
        is("22 pairs but for the excepted one", y.imported(0, 6), 2);
        is("22 without what it passes on", y.imported(0, 7), 2);
        y.use(D, name('a'));
        is("22 after another use", y.imported(0, 7), 3);
        y.remove(2, 0);
        is("22 after a use less", y.imported(0, 7), 2);
    }

    private static void used() {
        NameScopes x = made("A^,A^,A^,B.a,C.a,D<B.a,D<C.a,D<B,D<C,D?a", "A<B,A<C,A?a,B?a,A?b,D?b,B.b");
        int[][] due = {{3, 0, -1, 2}, {0, 0, -1, 3}, {1, 0, 0, 0}, {0, 1, 2, 0}, {3, 1, 2, 0}};
        for (int u = 0; u < 5; u++) {
            for (int what = 0; what <= 3; what++) {
                is("23 use " + u + " property " + what, x.used(u, what), due[u][what]);
            }
        }
        x.remove(0, 2);
        is("23 unresolved", x.used(3, 3), 1);
        is("23 resolved to nothing", x.used(3, 2), -1);
        refuses("23 no use", x, INDEX, () -> x.used(5, 4));
        refuses("23 negative", x, INDEX, () -> x.used(-1, 0));
        refuses("23 what 4", x, ARGUMENT, () -> x.used(0, 4));
        refuses("23 what -1", x, ARGUMENT, () -> x.used(0, -1));
    }

    private static void parent() {
        NameScopes x = made("A^,B^,B^");
        is("24 scope 0", x.parent(0), -1);
        is("24 scope 1", x.parent(1), 0);
        is("24 scope 3", x.parent(3), 1);
        refuses("24 no scope", x, INDEX, () -> x.parent(4));
        refuses("24 negative", x, INDEX, () -> x.parent(-1));
    }

    private static void resolvedShare() {
        NameScopes x = made("A.a");
        is("25 no uses", x.resolvedShare(), 1.0);
        x.use(0, 1);
        is("25 none", x.resolvedShare(), 0.0);
        x.use(0, 0);
        is("25 half", x.resolvedShare(), 0.5);
        x.use(0, 2);
        is("25 a third", x.resolvedShare(), 1.0 / 3.0);
        is("25 an ambiguous one is not resolved", made("A^,A^,A^,B.a,C.a,D<B,D<C,D?a").resolvedShare(), 0.0);
    }

    private static void digest() {
        NameScopes x = new NameScopes();
        int[] fresh = {1, 0, 0, 0, 0, 0, 0, 0, 0, 0, 0, -1, 0, 0, 0};
        is("26 a new object", x.digest() == hash(fresh) ? 1 : 0, 1);
        put(x, "A!");
        int[] withText = {1, 0, 0, 0, 0, 0, 0, 0, 0, 0, 0, -1, 0, 0, 2, 'A', '!'};
        is("26 with a text", x.digest() == hash(withText) ? 1 : 0, 1);
        NameScopes y = made("A^,B.c,A<B,A?c");
        int[] all = {2, 1, 1, 1, 1, 0, 0, 0, 0, 1, 1, -1, 4, 0, 0, 4, 0, 1, 2, 1, 1, 1, 2,
            0, 1, -1, -1, 0, 0, 1, 1, 0, 2, 0, 0, 0};
        is("26 one of each", y.digest() == hash(all) ? 1 : 0, 1);
        is("26 asking changes nothing", y.digest() == hash(all) ? 1 : 0, 1);
    }

    private static long hash(int[] values) {
        long hash = 1997;
        for (int v : values) {
            hash = 31 * hash + v;
        }
        return hash;
    }

    public static void main(String[] args) {
        newObject();
        begin();
        addScope();
        declare();
        importOne();
        importAll();
        importsTakeEffect();
        use();
        remove();
        removeMovesAll();
        append();
        clearBuffer();
        firstError();
        loadsItems();
        loadRefuses();
        offering();
        circles();
        resolve();
        deepScopes();
        candidate();
        visible();
        renameRules();
        renameLaterOne();
        renameSpares();
        renameClash();
        renameCaptured();
        ifRenamedRefuses();
        freeName();
        count();
        declaration();
        imported();
        used();
        parent();
        resolvedShare();
        digest();
        end();
    }
}
