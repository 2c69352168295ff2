/** Every sentence of the document's description, quoted, with a test of its own for the boundary that it names. */
public final class DescriptionTest extends Checks {

    private static void scopes() {
        says("Scopes.");
        sentence("There are at most 16 scopes, numbered from 0 in the order in which they were added.", () -> {
            NameScopes x = new NameScopes();
            for (int n = 1; n <= 15; n++) {
                is("number", x.addScope(n / 3), n);
            }
            is("scopes", x.count(0), 16);
            refuses("a 17th scope", x, STATE, () -> x.addScope(0));
            put(x, "A^");
            refuses("a 17th scope by a text", x, STATE, x::load);
            is("scopes still", x.count(0), 16);
            x.begin();
            is("numbered anew", x.addScope(0), 1);
        });
        sentence("Scope 0 is always there; it has no parent.", () -> {
            NameScopes x = new NameScopes();
            is("new", x.count(0), 1);
            is("parent", x.parent(0), NONE);
            is("it can have a declaration", x.declare(0, 0, true), 0);
            is("and a use", x.use(0, 0), 0);
            x.begin();
            is("after begin", x.count(0), 1);
            is("parent after begin", x.parent(0), NONE);
            is("the parent of a full object's scope 0", full().parent(0), NONE);
        });
        sentence("Each other scope has a parent, which is an earlier scope.", () -> {
            NameScopes x = new NameScopes();
            refuses("itself", x, INDEX, () -> x.addScope(1));
            put(x, "B^");
            refuses("itself, by a text", x, STATE, x::load);
            for (int n = 1; n <= 15; n++) {
                x.addScope(n - 1);
                is("the one before", x.parent(n), n - 1);
            }
        });
        sentence("A name is one of the letters a to z, told as a number from 0 to 25.", () -> {
            NameScopes x = made("A.a,A-z,A?a,A?z");
            is("a", x.declaration(0, 1), 0);
            is("z", x.declaration(1, 1), 25);
            is("the use of a", x.used(0, 1), 0);
            is("the use of z", x.used(1, 1), 25);
            is("both are seen", x.visible(0, false), 1 + (1 << 25));
            refuses("below a", x, ARGUMENT, () -> x.use(0, -1));
            refuses("beyond z", x, ARGUMENT, () -> x.use(0, 26));
        });
    }

    private static void declarations() {
        says("Declarations.");
        sentence("There are at most 30 declarations, numbered from 0.", () -> {
            NameScopes x = chain(2);
            for (int d = 0; d < 30; d++) {
                is("number", x.declare(d / 26, d % 26, d % 2 == 0), d);
            }
            refuses("a 31st", x, STATE, () -> x.declare(1, 25, false));
            put(x, "B.z");
            refuses("a 31st by a text", x, STATE, x::load);
            is("declarations", x.count(1), 30);
            is("the last one is seen", x.resolve(1, 3, 0), 29);
            x.remove(0, 29);
            is("the 30th again", x.declare(1, 25, true), 29);
        });
        sentence("A declaration belongs to a scope, has a name, and is public or private.", () -> {
            NameScopes x = chain(16);
            x.declare(15, 25, false);
            x.declare(0, 0, true);
            is("last scope", x.declaration(0, 0), 15);
            is("last name", x.declaration(0, 1), 25);
            is("private", x.declaration(0, 2), 0);
            is("first scope", x.declaration(1, 0), 0);
            is("first name", x.declaration(1, 1), 0);
            is("public", x.declaration(1, 2), 1);
        });
        sentence("A scope has at most one declaration of each name.", () -> {
            NameScopes x = made("A^,A.a,B-b");
            refuses("public again", x, ARGUMENT, () -> x.declare(A, 0, true));
            refuses("private beside public", x, ARGUMENT, () -> x.declare(A, 0, false));
            refuses("public beside private", x, ARGUMENT, () -> x.declare(B, 1, true));
            is("another scope", x.declare(B, 0, true), 2);
            is("another name", x.declare(A, 25, true), 3);
            is("renaming", x.rename(3, 24), 0);
            refuses("the new name is taken", x, ARGUMENT, () -> x.declare(A, 24, true));
            is("the old name is free", x.declare(A, 25, true), 4);
            x.remove(0, 0);
            is("a removed one's name is free", x.declare(A, 0, false), 4);
            put(x, "B.z,B-z");
            refuses("twice in one text", x, STATE, x::load);
        });
    }

    private static void imports() {
        says("Imports.");
        sentence("There are at most 20 imports, numbered from 0.", () -> {
            NameScopes x = chain(2);
            for (int i = 0; i < 20; i++) {
                is("number", i % 3 == 0 ? x.importAll(A, B, 0, true) : x.importOne(B, A, 0, 0, true), i);
            }
            refuses("a 21st, single", x, STATE, () -> x.importOne(A, B, 0, 0, true));
            refuses("a 21st, full", x, STATE, () -> x.importAll(A, B, 0, true));
            put(x, "A<B");
            refuses("a 21st by a text", x, STATE, x::load);
            is("imports", x.count(2), 20);
            x.declare(A, 25, true);
            x.remove(1, 19);
            is("the 20th again", x.importOne(B, A, 25, 24, true), 19);
            is("it brings", x.resolve(B, 24, 0), 0);
        });
        sentence("An import leads into a scope, from another scope.", () -> {
            NameScopes x = chain(16);
            refuses("single, from itself", x, ARGUMENT, () -> x.importOne(P, P, 0, 1, true));
            refuses("full, from itself", x, ARGUMENT, () -> x.importAll(A, A, 0, true));
            put(x, "P<<P.a=b");
            refuses("by a text", x, STATE, x::load);
            x.importOne(P, A, 0, 0, true);
            x.importAll(A, P, 0, true);
            is("into the last one", x.imported(0, 0), 15);
            is("from the first one", x.imported(0, 1), 0);
            is("into the first one", x.imported(1, 0), 0);
            is("from the last one", x.imported(1, 1), 15);
        });
        sentence("It is a single import, which has a source name and a local name, or a full import, which has a set of "
                + "excepted names.", () -> {
            NameScopes x = chain(2);
            x.importOne(A, B, 0, 25, true);
            x.importAll(A, B, ALL_NAMES, true);
            x.importAll(A, B, 0, true);
            int[][] due = {{0, 25, 0}, {NONE, NONE, ALL_NAMES}, {NONE, NONE, 0}};
            for (int i = 0; i < 3; i++) {
                for (int n = 0; n < 3; n++) {
                    is("import " + i + " property " + (n + 2), x.imported(i, n + 2), due[i][n]);
                }
            }
        });
        sentence("An import is passed on, or it is not.", () -> {
            NameScopes x = made("A^,A^,A^,A^,A^,B.a", "C<B,D<<B,E<B.a,F<<B.a");
            is("full, not", x.offers(C, 0) + x.imported(0, 5), 0);
            is("full", x.offers(D, 0) + x.imported(1, 5), 2);
            is("single, not", x.offers(E, 0) + x.imported(2, 5), 0);
            is("single", x.offers(F, 0) + x.imported(3, 5), 2);
        });
    }

    private static void offers() {
        sentence("What a scope offers is a set of pairs of a name and a declaration: each public declaration of the scope "
                + "with its name;", () -> {
            NameScopes x = made("A^,A-a,A.z,B-z");
            is("private", x.offers(A, 0), 0);
            is("public", x.offers(A, 25), 1);
            is("none that is public", x.offers(B, 25), 0);
            is("all pairs", x.count(10), 1);
            is("nothing is declared", chain(16).count(10), 0);
            NameScopes y = made("A^,A^,B.a,C<<B,C<<B.a,C<<B");
            is("the same pair by three imports is one", y.offers(C, 0), 1);
        });
        sentence("and each pair that is brought by an import into the scope which is passed on, unless the scope has a "
                + "declaration (public or private) of the name of the pair.", () -> {
            NameScopes x = made("A^,A^,A^,A^,B.a,B.b,C.a,D-a,C<<B,D<<B,E<<B");
            is("public: its own alone", x.offers(C, 0), 1);
            is("which one", x.candidate(C, 0, 0, 0), 2);
            is("private: none", x.offers(D, 0), 0);
            is("no declaration", x.offers(E, 0), 1);
            is("another name", x.offers(C, 1) + x.offers(D, 1), 2);
            is("a scope without a declaration", x.count(10), 7);
            NameScopes y = made("A^,A^,B.a,C-a,C<<B.a=k,C<<B.b=a,B.b");
            is("the name of the pair is the local one", y.offers(C, name('k')), 1);
            is("a local name that is declared", y.offers(C, 0), 0);
            y.remove(0, 1);
            is("it is no longer declared", y.offers(C, 0), 1);
            NameScopes z = made("A^,A^,B.a,B.b,B.c,B.z,C-a,C.b,C-z,C<<B");
            is("the first of several", z.offers(C, 0), 0);
            is("the second of several", z.offers(C, 1), 1);
            is("none of these", z.offers(C, 2), 1);
            is("the last of several", z.offers(C, 25), 0);
        });
        sentence("A single import brings a pair of its local name and a declaration for each pair of its source name and "
                + "this declaration that is offered by the scope from which it leads.", () -> {
            NameScopes x = made("A^,A^,A^,A^,B.a,C.a,D<<B,D<<C,B-p,E<B.b,E<B.p", "E<B.a=k,E<D.a=m,E<D.k");
            is("no such name", x.imported(2, 6), 0);
            is("a private one", x.imported(3, 6), 0);
            is("one", x.imported(4, 6), 1);
            is("two", x.imported(5, 6), 2);
            is("a local name of another scope", x.imported(6, 6), 0);
            is("by the local name", x.resolve(E, name('k'), 0), 0);
            is("two by the local name", x.resolve(E, name('m'), 1), 2);
            is("not by the source name", x.resolve(E, 0, 1), 0);
        });
        sentence("A full import brings each pair that is offered by the scope from which it leads, unless its name is "
                + "excepted.", () -> {
            NameScopes x = made("A^");
            for (int n = 0; n < 26; n++) {
                x.declare(A, n, true);
            }
            x.importAll(B, A, 0, false);
            x.importAll(B, A, ALL_NAMES, false);
            x.importAll(B, A, 1, false);
            x.importAll(B, A, 1 << 25, false);
            x.importAll(B, A, ALL_NAMES - 1, false);
            int[] due = {26, 0, 25, 25, 1};
            for (int i = 0; i < 5; i++) {
                is("import " + i, x.imported(i, 6), due[i]);
            }
            NameScopes y = made("A^,A^,B.a,B.z,C<B/a");
            is("the excepted one", y.resolve(C, 0, 1), 0);
            is("the other one", y.resolve(C, 25, 0), 1);
        });
    }

    private static void circles() {
        sentence("(Imports can lead in a circle; then only those pairs are offered that come from public declarations by "
                + "finitely many imports.)", () -> {
            NameScopes x = made("A^,A^,B<<C,C<<B,B?a");
            is("from nowhere", x.count(10), 0);
            x.declare(C, 0, false);
            is("a private one", x.count(10), 0);
            x.declare(B, 25, true);
            is("a public one, at both", x.count(10), 2);
            is("it comes back as a layer behind its own", x.resolve(B, 25, 4), 1);
            is("and not as an offer", x.offers(B, 25), 1);
            x.remove(0, 1);
            is("nothing is left of it", x.count(10), 0);
            NameScopes cut = made("A^,A^,A^,B.a,C-a,C<<B,D<<C,B<<D,D?a");
            is("a circle that a private declaration cuts", cut.count(10), 1);
            is("the use behind the cut", cut.used(0, 3), 1);
            sixteenInACircle();
            longestWay(false);
            longestWay(true);
            roundAndRound(false);
            roundAndRound(true);
            is("an import told before two others", made("A^,A^,A^,A^,B.a,E<<C,C<<B,D<<B").offers(E, 0), 1);
            is("another name that comes later", made("A^,A^,A^,A^,B.z,E.a,D<<C,C<<B,B<<E").offers(D, 0), 1);
        });
    }

    private static void sixteenInACircle() {
        NameScopes x = chain(16);
        for (int n = 0; n < 16; n++) {
            x.importAll(n, (n + 1) % 16, 0, true);
        }
        x.declare(0, 25, true);
        is("round all scopes", x.declaration(0, 4), 16);
        x.remove(1, 7);
        is("round the scopes from 8 to 0", x.declaration(0, 4), 9);
        x.remove(0, 0);
        is("none", x.count(10), 0);
    }

    /** A pair that goes to and fro by all 20 imports, with another local name each time. */
    private static void longestWay(boolean fromTheLastOne) {
        NameScopes x = made("A^,A^");
        for (int n = 0; n < 20; n++) {
            int k = fromTheLastOne ? 19 - n : n;
            x.importOne(k % 2 == 0 ? C : B, k % 2 == 0 ? B : C, k, k + 1, true);
        }
        is("before the declaration", x.count(10), 0);
        x.declare(B, 0, true);
        is("by 20 imports", x.offers(B, 20), 1);
        is("by 0 to 20 imports", x.count(10), 21);
        is("by two scopes", x.declaration(0, 4), 2);
    }

    /** A pair that goes eleven times round, by the same full imports, with another local name each time. */
    private static void roundAndRound(boolean fromTheLastOne) {
        NameScopes x = chain(16);
        for (int n = 0; n < 10; n++) {
            int k = fromTheLastOne ? 9 - n : n;
            x.importAll(k + 1, k, 0, true);
            x.importOne(0, 10, k, k + 1, true);
        }
        is("before the declaration", x.count(10), 0);
        x.declare(0, 0, true);
        is("by 120 imports", x.offers(10, 10), 1);
        is("by 0 to 120 imports", x.count(10), 121);
        is("by eleven scopes", x.declaration(0, 4), 11);
        int fToG = fromTheLastOne ? 9 : 11;
        is("the single import of f as g", x.imported(fToG, 2) * 100 + x.imported(fToG, 3), 506);
        x.remove(1, fToG);
        is("the six names before it by eleven scopes", x.count(10), 66);
    }

    private static void layers() {
        says("Resolving. A name is resolved from a scope like this. A layer is a set of declarations.");
        sentence("The layers of the name are, scope by scope, beginning with this scope, then its parent, and so on up to "
                + "scope 0:", () -> {
            NameScopes x = chain(16);
            x.declare(0, 25, false);
            is("scope 0, from scope 15", x.resolve(15, 25, 0), 0);
            is("steps", x.resolve(15, 25, 3), 15);
            is("scope 0, from itself", x.resolve(0, 25, 3), 0);
            x.declare(14, 25, false);
            is("a nearer one", x.resolve(15, 25, 0), 1);
            is("one step", x.resolve(15, 25, 3), 1);
            is("not from above", x.resolve(13, 25, 0), 0);
            NameScopes y = made("A^,A^,B.a");
            is("a scope beside it is none of these", y.resolve(C, 0, 1), 0);
            is("a scope below it is none of these", y.resolve(A, 0, 1), 0);
        });
        sentence("the declaration of the name in the scope, if there is one; the declarations of all pairs with this name "
                + "that are brought by single imports into the scope; the declarations of all pairs with this name that are "
                + "brought by full imports into the scope.", () -> {
            NameScopes x = made("A^,A^,A^,A^,B.a,C.a,D.a,E-a,E<B.a,E<C.a,E<D,E<C");
            int[][] due = {{3, NONE}, {0, 1}, {1, 2}, {NONE, NONE}};
            for (int layer = 0; layer < 4; layer++) {
                for (int index = 0; index < 2; index++) {
                    is("layer " + layer + " index " + index, x.candidate(E, 0, layer, index), due[layer][index]);
                }
            }
            NameScopes y = made("A^,A^,B.a,C<B.a=b,C<B");
            is("by the local name", y.resolve(C, 1, 2), 1);
            is("by its own name", y.resolve(C, 0, 2), 2);
        });
        sentence("Empty layers do not count.", () -> {
            NameScopes x = made("A^,A^,A.a,C-a,B<C.a,B<C,B<A/a");
            is("the first layer that is not empty", x.resolve(B, 0, 0), 0);
            is("its sort", x.resolve(B, 0, 2), 0);
            is("its steps", x.resolve(B, 0, 3), 1);
            is("none is hidden", x.resolve(B, 0, 4), 0);
            is("layer 0", x.candidate(B, 0, 0, 0), 0);
            is("layer 1", x.candidate(B, 0, 1, 0), NONE);
        });
    }

    private static void firstLayer() {
        sentence("The first layer decides: if it has one declaration, the name is resolved to it; if it has several, the "
                + "name is ambiguous.", () -> {
            NameScopes x = made("A^,A^,A^,B.a,D<B,D<B,D<B,D?a,A-a");
            is("one declaration, brought three times", x.used(0, 2), 0);
            put(x, "C.a,D<C");
            x.load();
            is("two, and one in the layer behind", x.used(0, 3), 3);
            is("resolved to none", x.used(0, 2), NONE);
            is("two", x.resolve(D, 0, 1), 2);
            put(x, "D<C.a");
            x.load();
            is("one before the two", x.used(0, 2), 2);
            put(x, "D<B.a");
            x.load();
            is("two before the two", x.used(0, 3), 2);
            put(x, "D-a");
            x.load();
            is("its own before all", x.used(0, 2), 3);
        });
        sentence("If there are no layers, the name is unresolved.", () -> {
            NameScopes x = new NameScopes();
            int[] due = {NONE, 0, NONE, NONE, 0};
            for (int n = 0; n < 26; n++) {
                for (int what = 0; what <= 4; what++) {
                    is("name " + n + " what " + what, x.resolve(0, n, what), due[what]);
                }
                is("use", x.used(x.use(0, n), 3), 1);
            }
            is("neither resolved nor ambiguous", x.visible(0, false) + x.visible(0, true), 0);
        });
        sentence("The layers behind the first one are hidden.", () -> {
            is("one layer", made("A.a").resolve(0, 0, 4), 0);
            NameScopes x = chain(16);
            for (int n = 0; n < 16; n++) {
                x.declare(n, 0, true);
            }
            for (int n = 0; n < 10; n++) {
                x.importOne(n, n + 1, 0, 0, false);
                x.importAll(n, n + 1, 0, false);
            }
            is("of 36 layers", x.resolve(15, 0, 4), 35);
            is("the last of them", x.candidate(15, 0, 35, 0), 1);
            is("beyond", x.candidate(15, 0, 36, 0), NONE);
            is("the first one decides", x.resolve(15, 0, 0), 15);
        });
    }

    private static void uses() {
        says("Uses.");
        sentence("There are at most 30 uses, numbered from 0.", () -> {
            NameScopes x = chain(2);
            for (int u = 0; u < 30; u++) {
                is("number", x.use(u % 2, u % 26), u);
            }
            refuses("a 31st", x, STATE, () -> x.use(0, 0));
            put(x, "A?a");
            refuses("a 31st by a text", x, STATE, x::load);
            is("uses", x.count(3), 30);
            x.remove(2, 0);
            is("the 30th again", x.use(0, 25), 29);
        });
        sentence("A use has a scope and a name.", () -> {
            NameScopes x = chain(16);
            x.use(15, 0);
            x.use(0, 25);
            is("last scope", x.used(0, 0), 15);
            is("first name", x.used(0, 1), 0);
            is("first scope", x.used(1, 0), 0);
            is("last name", x.used(1, 1), 25);
        });
        sentence("Its outcome is what its name is resolved to from its scope; the outcomes of two moments are the same if "
                + "the name is unresolved in both, or if the first layers have the same declarations.", () -> {
            NameScopes x = made("A^,A^,B.a,C<B.a,C<B,A<B,C?a,C?b");
            is("a single import less", x.remove(1, 0), 0);
            is("of another sort now", x.resolve(C, 0, 2), 2);
            is("a full import less", x.remove(1, 0), 0);
            is("in another scope now", x.resolve(C, 0, 3), 1);
            is("the last import less", x.remove(1, 0), 1);
            is("unresolved before and after", x.remove(0, 0), 0);
            NameScopes y = made("A^,A.a,B.a,B?a");
            is("another declaration of the name", y.remove(0, 1), 1);
            is("none at all", y.remove(0, 0), 1);
        });
        sentence("(So an ambiguous use keeps its outcome as long as it is ambiguous between the same declarations.)", () -> {
            NameScopes x = made("A^,A^,A^,A^,B.a,C.a,D<<B,D<<C,E<D.a,E<D,E?a");
            is("ambiguous by single imports", x.used(0, 3), 2);
            is("the single import less", x.remove(1, 2), 0);
            is("ambiguous by full imports", x.used(0, 3), 3);
            NameScopes y = made("A^,A^,A^,A^,B.a,C.a,D.a,E<B,E<C,E<D,E?a");
            is("one of three less, and still ambiguous", y.remove(1, 1), 1);
            is("still", y.used(0, 3), 3);
            is("one of two less", y.remove(1, 0), 1);
            is("resolved", y.used(0, 3), 0);
        });
    }

    private static void renamingNames() {
        says("Renaming.");
        sentence("To rename a declaration d from the name x to another name y means, all at once: 1. The declaration gets "
                + "the name y.", () -> {
            NameScopes x = made("A.a,A.b");
            is("a to z", x.rename(0, 25), 0);
            is("z", x.declaration(0, 1), 25);
            is("z is seen, a is not", x.visible(0, false), mask("bz"));
            is("z to a", x.rename(0, 0), 0);
            is("a", x.declaration(0, 1), 0);
            is("the other one", x.declaration(1, 1), 1);
            NameScopes y = withDeclarations(30);
            is("the last declaration", y.rename(29, 25), 0);
            is("its name", y.declaration(29, 1), 25);
        });
        sentence("2. Each single import with the source name x that brings a pair with d gets the source name y, and, if "
                + "its local name is x, also the local name y.", () -> {
            NameScopes x = made("A^,A^,A^,A^,B.a,C.a,D<<B,D<<C", "E<B.a,E<B.a=k,E<C.a,E<D.a,E<B.b=a,E<D.b=a");
            is("renamed", x.rename(0, 25), 0);
            int[][] due = {{25, 25}, {25, name('k')}, {0, 0}, {25, 25}, {1, 0}, {1, 0}};
            for (int n = 0; n < 6; n++) {
                is("source of import " + (n + 2), x.imported(n + 2, 2), due[n][0]);
                is("local name of import " + (n + 2), x.imported(n + 2, 3), due[n][1]);
            }
            is("the other declaration is not brought any more", x.imported(5, 6), 1);
            NameScopes y = made("A^,A^,B-a,C<B.a");
            is("a private one", y.rename(0, 25), 0);
            is("it was not brought", y.imported(0, 2) + y.imported(0, 3), 0);
            NameScopes z = withDeclarations(30);
            z.importOne(A, B, 3, 3, false);
            z.importOne(A, B, 2, 3, false);
            is("the last declaration", z.rename(29, 25), 0);
            is("its import", z.imported(0, 2) + z.imported(0, 3), 50);
            is("another one's import", z.imported(1, 2) + z.imported(1, 3), 5);
        });
        sentence("3. Each full import for which x is excepted, and which leads from a scope that offers a pair of x and d, "
                + "has y as an excepted name, too.", () -> {
            NameScopes x = made("A^,A^,A^,B.a,C-a,D<B/a,D<B/b,D<B/az", "D<C/a,D<B,A<D/a");
            is("renamed", x.rename(0, 25), 0);
            int[] due = {mask("az"), mask("b"), mask("az"), mask("a"), 0, mask("a")};
            for (int i = 0; i < 6; i++) {
                is("import " + i, x.imported(i, 4), due[i]);
            }
            NameScopes y = made("A^,A^,B.z,B-a,C<B/z");
            is("a private one", y.rename(1, 1), 0);
            is("it was not excepted", y.imported(0, 4), mask("z"));
            is("the last name", y.rename(0, 0), 0);
            is("the first one, too", y.imported(0, 4), mask("az"));
            NameScopes z = withDeclarations(30);
            z.importAll(A, B, mask("d"), false);
            z.importAll(A, B, mask("c"), false);
            is("the last declaration", z.rename(29, 25), 0);
            is("its excepted name", z.imported(0, 4), mask("dz"));
            is("another one's excepted name", z.imported(1, 4), mask("c"));
        });
    }

    private static void renamingUses() {
        sentence("4. Each use with the name x that is resolved to d (and not ambiguous) gets the name y.", () -> {
            NameScopes x = made("A^,A^,A^,B.a,C<B.a=k,C<B.a,C?k,C?a,B?a,D?a,B^,E?a");
            is("renamed", x.rename(0, 25), 0);
            int[] due = {name('k'), 25, 25, 0, 25};
            for (int u = 0; u < 5; u++) {
                is("use " + u, x.used(u, 1), due[u]);
            }
            NameScopes y = made("A^,A^,A^,B.a,C.a,D<B,D<C,D?a,B?a");
            is("the use of one of two is not counted", y.ifRenamed(0, 25, 2), 1);
            is("and it would have another outcome", y.rename(0, 25), 3);
            is("its name", y.used(0, 1), 0);
        });
        sentence("What is brought and offered, and what uses are resolved to, is meant as it was before.", () -> {
            NameScopes x = made("A^,A^,A^,B.a,C<<B.a,D<C.a,A<C/a,C?a,D?a,B?a");
            is("renamed", x.rename(0, 25), 0);
            is("the first import", x.imported(0, 2) + x.imported(0, 3), 50);
            is("the one behind it", x.imported(1, 2) + x.imported(1, 3), 50);
            is("the excepted names behind it", x.imported(2, 4), mask("az"));
            is("the uses", x.used(0, 1) + x.used(1, 1) + x.used(2, 1), 75);
            NameScopes y = made("A^,A^,A^,D<C.a,C<<B.a,B.a,D?a,C?a,B?a");
            is("told from behind", y.rename(0, 25), 0);
            is("sources", y.imported(0, 2) + y.imported(1, 2), 50);
            is("resolved", y.count(4), 3);
        });
    }

    private static void refusedRenaming() {
        says("It is refused for the reason");
        sentence("- 1 (clash) if x and y are the same, or the scope of d has a declaration of y;", () -> {
            NameScopes x = made("A^,A.a,A-b,A.z,B.c");
            is("the same", x.rename(0, 0), 1);
            is("the same last name", x.rename(2, 25), 1);
            is("a private one", x.rename(0, 1), 1);
            is("a public one", x.rename(1, 25), 1);
            is("one of another scope", x.rename(0, 2), 0);
        });
        sentence("- 2 (captured) if a use that was resolved to d would have another outcome afterwards;", () -> {
            NameScopes x = made("A^,A.a,B-b,B?a");
            is("by a nearer declaration", x.rename(0, 1), 2);
            NameScopes y = made("A^,A^,C.b,A.a,B<C.b,B?a");
            is("by a single import", y.rename(1, 1), 2);
            NameScopes z = made("A^,A^,C.b,A.a,B<C,B?a");
            is("by a full import", z.rename(1, 1), 2);
            NameScopes w = made("A^,A^,B.a,C<B/b,C?a");
            is("by an excepted name", w.rename(0, 1), 2);
            NameScopes v = made("A^,A^,A^,B.a,C.b,D<B,D<C,D?a");
            is("by becoming ambiguous", v.rename(0, 1), 2);
            NameScopes u = made("A^,A^,A^,B.a,C-b,C<<B,D<C.a=k,D?k");
            is("a use of a local name, too", u.rename(0, 1), 2);
            NameScopes t = made("A^,A.a,B-b,A?a");
            is("a use of a scope where nothing captures it", t.rename(0, 1), 0);
        });
        sentence("- 3 (capturing) if another use would have another outcome afterwards.", () -> {
            is("a resolved one", made("A^,A.a,B-b,B?a").rename(1, 0), 3);
            is("an unresolved one", made("A.a,A?b").rename(0, 1), 3);
            is("an ambiguous one", made("A^,A^,A^,B.a,C.a,D<B,D<C,D?a,D.b").rename(2, 0), 3);
            is("one that becomes ambiguous", made("A^,A^,A^,B.a,C.b,D<B,D<C,D?b").rename(0, 1), 3);
            is("one of d and others", made("A^,A^,A^,B.a,C.a,D<B,D<C,D?a").rename(0, 1), 3);
            is("one whose single import follows d alone",
                made("A^,A^,A^,B.a,C.a,D<<B,D<<C,A<D.a=k,A?k").rename(0, 1), 3);
        });
        sentence("If several reasons apply, the lowest one counts.", () -> {
            NameScopes x = made("A^,A.a,B-b,B?b,A?b,B?a");
            is("2 and 3, by an earlier use", x.rename(0, 1), 2);
            is("the use is that of reason 2", x.ifRenamed(0, 1, 1), 2);
            NameScopes y = made("A^,A.a,A-b,B.b,B?a,B?b");
            is("1 and 2", y.rename(0, 1), 1);
            is("no use", y.ifRenamed(0, 1, 1), NONE);
            is("nothing is renamed", y.declaration(0, 1) + y.used(0, 1), 0);
        });
    }

    private static void texts() {
        says("Input text.");
        sentence("The buffer has at most 50 characters.", () -> {
            NameScopes x = new NameScopes();
            put(x, "A?a,".repeat(12) + "A");
            is("the 50th", x.append('?'), 50);
            refuses("the 51st", x, STATE, () -> x.append('a'));
            is("no error in 50", x.firstError(), 50);
            is("it has 50", x.clearBuffer(), 50);
        });
        sentence("A text is one or more items separated by \",\".", () -> {
            NameScopes x = new NameScopes();
            refuses("no item", x, ARGUMENT, x::load);
            put(x, "A^");
            is("one", x.load(), 1);
            put(x, "A<B.a,".repeat(8) + "A^");
            is("nine, of 50 characters", x.load(), 9);
            String[] wrong = {",", "A^,", ",A^", "A^,,A^", "A^A^"};
            int[] due = {0, 3, 0, 3, 2};
            for (int n = 0; n < wrong.length; n++) {
                NameScopes y = new NameScopes();
                put(y, wrong[n]);
                is("first error of " + wrong[n], y.firstError(), due[n]);
                refuses("no text " + wrong[n], y, ARGUMENT, y::load);
            }
        });
        sentence("The letters A to P stand for the scopes 0 to 15.", () -> {
            NameScopes x = chain(16);
            put(x, "A.a,P.a,A?b,P?b,A<P,P<A.a");
            x.load();
            is("declarations", x.declaration(0, 0) * 100 + x.declaration(1, 0), 15);
            is("uses", x.used(0, 0) * 100 + x.used(1, 0), 15);
            is("into", x.imported(0, 0) * 100 + x.imported(1, 0), 15);
            is("from", x.imported(0, 1) * 100 + x.imported(1, 1), 1500);
            for (char c : "@Qap".toCharArray()) {
                NameScopes y = chain(16);
                y.append(c);
                is("no scope " + c, y.firstError(), 0);
                y.clearBuffer();
                put(y, "A<" + c);
                is("no scope of an import " + c, y.firstError(), 2);
            }
        });
    }

    private static void items() {
        says("An item is:");
        sentence("scope \"^\" to add a scope whose parent is this one", () -> {
            NameScopes x = made("A^,B^,A^,D^");
            is("parents", x.parent(1) * 1000 + x.parent(2) * 100 + x.parent(3) * 10 + x.parent(4), 103);
            syntax("A^", 2, true);
            syntax("A^a", 2, false);
        });
        sentence("scope \".\" name a public declaration", () -> {
            is("public", made("A.z").declaration(0, 2), 1);
            syntax("A.", 2, false);
            syntax("A.a", 3, true);
            syntax("A.ab", 3, false);
        });
        sentence("scope \"-\" name a private declaration", () -> {
            is("private", made("A-z").declaration(0, 2), 0);
            syntax("A-", 2, false);
            syntax("A-z", 3, true);
            syntax("A-A", 2, false);
        });
        sentence("scope \"?\" name a use", () -> {
            is("a use", made("A?z").used(0, 1), 25);
            syntax("A?", 2, false);
            syntax("A?a", 3, true);
            syntax("A??", 2, false);
        });
        sentence("scope \"<\" [\"<\"] scope \".\" name [\"=\" name] a single import into the first scope from the second "
                + "one, with the source name, and the local name (the same if it is not told); \"<<\" if it is passed on", () -> {
            NameScopes x = made("A^,A<B.z,B<<A.z,A<B.a=z,B<<A.z=a,A<B.a=a");
            int[][] due = {{0, 1, 25, 25, 0, 0}, {1, 0, 25, 25, 0, 1}, {0, 1, 0, 25, 0, 0}, {1, 0, 25, 0, 0, 1},
                {0, 1, 0, 0, 0, 0}};
            for (int i = 0; i < 5; i++) {
                for (int what = 0; what <= 5; what++) {
                    is("import " + i + " property " + what, x.imported(i, what), due[i][what]);
                }
            }
            syntax("A<<<", 3, false);
            syntax("A<B.", 4, false);
            syntax("A<B.a=", 6, false);
            syntax("A<B.a=b=", 7, false);
            syntax("A<B.ab", 5, false);
            syntax("A<B.a/", 5, false);
        });
        sentence("scope \"<\" [\"<\"] scope [\"/\" name { name }] a full import, with the excepted names", () -> {
            NameScopes x = made("A^,A<B,B<<A,A<B/z,B<<A/az", "A<B/abcdefghijklmnopqrstuvwxyz");
            int[] excepted = {0, 0, 1 << 25, 1 + (1 << 25), ALL_NAMES};
            for (int i = 0; i < 5; i++) {
                is("excepted names of import " + i, x.imported(i, 4), excepted[i]);
                is("no source name " + i, x.imported(i, 2), NONE);
                is("no local name " + i, x.imported(i, 3), NONE);
                is("passed on " + i, x.imported(i, 5), i % 2 == 1 ? 1 : 0);
                is("into " + i, x.imported(i, 0), i % 2 == 1 ? 1 : 0);
            }
            syntax("A<", 2, false);
            syntax("A<<", 3, false);
            syntax("A<B/", 4, false);
            syntax("A<B/,", 4, false);
            syntax("A<B/a=", 5, false);
            syntax("A<B/a/", 5, false);
        });
    }

    /** The first error of a text, and whether it is a complete one by itself, apart from what there is. */
    private static void syntax(String text, int firstError, boolean complete) {
        NameScopes x = made("A^");
        put(x, text);
        is("first error of " + text, x.firstError(), firstError);
        if (complete) {
            is("items of " + text, x.load(), 1);
        } else {
            refuses("loading " + text, x, ARGUMENT, x::load);
        }
    }

    private static void reading() {
        sentence("where a name is a letter a to z (an excepted name can be told twice).", () -> {
            is("twice", made("A^,A<B/zz").imported(0, 4), 1 << 25);
            is("45 times", made("A^", "A<<B/" + "a".repeat(45)).imported(0, 4), 1);
            is("all, some twice", made("A^", "A<B/abcdefghijklmnopqrstuvwxyzabcdefghijklmnopqrst").imported(0, 4), ALL_NAMES);
            for (char c : "`{AZ0".toCharArray()) {
                syntax("A." + c, 2, false);
                syntax("A<B." + c, 4, false);
                syntax("A<B.a=" + c, 6, false);
                syntax("A<B/" + c, 4, false);
                syntax("A<B/a" + c, 5, false);
            }
        });
        sentence("The buffer is read from left to right; a character is a syntax error if no text, of any length, begins "
                + "with the characters before it and this character", () -> {
            NameScopes x = new NameScopes();
            put(x, "A?a,".repeat(12) + "A<");
            is("a text that goes on beyond the buffer", x.firstError(), 50);
            refuses("but it is not complete", x, ARGUMENT, x::load);
            NameScopes y = new NameScopes();
            put(y, "A?a,".repeat(12) + "A=");
            is("the last character", y.firstError(), 49);
            NameScopes z = new NameScopes();
            put(z, "A^B^C^");
            is("the first of several", z.firstError(), 2);
            NameScopes w = new NameScopes();
            put(w, "!A^,A.a");
            is("the first character", w.firstError(), 0);
        });
        sentence("(whether scopes exist, and what there is already, does not matter).", () -> {
            NameScopes x = made("A.a");
            put(x, "A.a,A.a,P?z,P<P,O<<O.a=b,P^");
            is("no syntax error", x.firstError(), 27);
            refuses("but they cannot be added", x, STATE, x::load);
            NameScopes y = full();
            y.clearBuffer();
            put(y, "A^,A.a,A?a,A<B,A<B.a");
            is("no syntax error in a full object", y.firstError(), 20);
            refuses("but there is no room", y, STATE, y::load);
        });
    }

    private static void exceptions() {
        says("Exceptions.");
        sentence("A call that throws an exception changes nothing.", () -> {
            NameScopes x = full();
            refuses("addScope", x, STATE, () -> x.addScope(3));
            refuses("declare", x, STATE, () -> x.declare(3, 25, true));
            refuses("importOne", x, STATE, () -> x.importOne(3, 4, 0, 0, true));
            refuses("importAll", x, STATE, () -> x.importAll(3, 4, 0, true));
            refuses("use", x, STATE, () -> x.use(3, 0));
            refuses("remove, a sort", x, ARGUMENT, () -> x.remove(3, 0));
            refuses("remove, a declaration", x, INDEX, () -> x.remove(0, 30));
            refuses("remove, an import", x, INDEX, () -> x.remove(1, 20));
            refuses("remove, a use", x, INDEX, () -> x.remove(2, 30));
            refuses("append", x, STATE, () -> x.append('A'));
            refuses("load", x, ARGUMENT, x::load);
            refuses("rename, a declaration", x, INDEX, () -> x.rename(30, 25));
            refuses("rename, a name", x, ARGUMENT, () -> x.rename(0, 26));
            NameScopes y = made("A^,A^,A.a,B-b,C<A.a,C?a");
            put(y, "A^,D.a,B<<C/a,D<A.a=b,D?b,C.a,A-c,E?a,E^,A.a");
            refuses("the last item of a load", y, STATE, y::load);
            is("the buffer", y.clearBuffer(), 44);
            is("the next scope", y.addScope(0), 3);
            is("the next declaration", y.declare(3, 0, true), 2);
            is("the next import", y.importAll(3, 0, 0, true), 1);
            is("the next use", y.use(3, 0), 1);
        });
        sentence("If several exceptions apply, the one that is named first in the throws clause is thrown.", () -> {
            NameScopes x = full();
            refuses("addScope", x, INDEX, () -> x.addScope(16));
            refuses("declare, all three", x, INDEX, () -> x.declare(16, 26, true));
            refuses("declare, scope and room", x, INDEX, () -> x.declare(-1, 0, true));
            refuses("declare, name and room", x, ARGUMENT, () -> x.declare(0, 26, true));
            refuses("declare, twice and no room", x, ARGUMENT, () -> x.declare(0, 0, true));
            refuses("importOne, all three", x, INDEX, () -> x.importOne(16, 16, 26, 26, true));
            refuses("importOne, from and name", x, INDEX, () -> x.importOne(0, 16, -1, 0, true));
            refuses("importOne, the same and room", x, ARGUMENT, () -> x.importOne(0, 0, 0, 0, true));
            refuses("importOne, name and room", x, ARGUMENT, () -> x.importOne(0, 1, 0, 26, true));
            refuses("importAll, all three", x, INDEX, () -> x.importAll(-1, -1, -1, true));
            refuses("importAll, from and names", x, INDEX, () -> x.importAll(0, 16, -1, true));
            refuses("importAll, the same and room", x, ARGUMENT, () -> x.importAll(0, 0, 0, true));
            refuses("importAll, names and room", x, ARGUMENT, () -> x.importAll(0, 1, 1 << 26, true));
            refuses("use, all three", x, INDEX, () -> x.use(16, 26));
            refuses("use, name and room", x, ARGUMENT, () -> x.use(0, 26));
            refuses("remove", x, ARGUMENT, () -> x.remove(3, 30));
            refuses("append", x, ARGUMENT, () -> x.append(127));
            refuses("load", x, ARGUMENT, x::load);
            refuses("resolve", x, INDEX, () -> x.resolve(16, 26, 5));
            refuses("candidate", x, INDEX, () -> x.candidate(16, 26, 0, 0));
            refuses("offers", x, INDEX, () -> x.offers(16, 26));
            refuses("rename", x, INDEX, () -> x.rename(30, 26));
            refuses("ifRenamed", x, INDEX, () -> x.ifRenamed(30, 26, 3));
            refuses("declaration", x, INDEX, () -> x.declaration(30, 6));
            refuses("imported", x, INDEX, () -> x.imported(20, 8));
            refuses("used", x, INDEX, () -> x.used(30, 4));
            NameScopes y = new NameScopes();
            put(y, "P^,A");
            refuses("load, incomplete and no such scope", y, ARGUMENT, y::load);
        });
        says("The constants:");
        sentence("- `NONE = -1`: There is nothing to return.", () -> {
            is("NONE", NameScopes.NONE, -1);
            is("no declaration", new NameScopes().resolve(0, 0, 0), NameScopes.NONE);
        });
        says("The constructor and the methods follow, a promise each: the signature, then what it does.");
    }

    /** The limit on calls is of the caller; all of the calls below it are answered. */
    private static void calls() {
        open("What it is");
        says("A resolver for names in nested scopes: declarations that shadow others, imports of single names and of all "
            + "names with exceptions, imports that are passed on, uses of names with the reasons for which they are "
            + "ambiguous, and renaming that is refused when a use would be captured.");
        sentence("An object is used for at most 512 calls after it has been made; what later calls answer is free.", () -> {
            NameScopes x = new NameScopes();
            for (int call = 1; call < 512; call += 2) {
                is("number", x.declare(0, call % 26, true), 0);
                is("no use is changed", x.remove(0, 0), 0);
            }
            NameScopes y = new NameScopes();
            for (int character = 0; character < 502; character++) {
                is("length", y.append('A'), character % 50 + 1);
                if (character % 50 == 49) {
                    is("cleared", y.clearBuffer(), 50);
                }
            }
        });
        close();
    }

    public static void main(String[] args) {
        calls();
        open("Description");
        scopes();
        declarations();
        imports();
        offers();
        circles();
        layers();
        firstLayer();
        uses();
        renamingNames();
        renamingUses();
        refusedRenaming();
        texts();
        items();
        reading();
        exceptions();
        close();
        end();
    }
}
