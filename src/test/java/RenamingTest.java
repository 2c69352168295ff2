import java.util.ArrayList;
import java.util.List;
import java.util.Random;
import java.util.Set;
import java.util.TreeSet;

/**
 * Renaming without a second model: the rules of the document are carried out on what an object tells of itself,
 * the outcome is told to a new object by the calls of the face, and the uses of both objects are compared.
 */
public final class RenamingTest extends Checks {
    private static final int OBJECTS = 400;
    private static final int[] met = new int[4];

    /** What can be told to an object: parents, declarations, imports and uses, with their properties in order. */
    private record Told(List<Integer> parents, List<int[]> declarations, List<int[]> imports, List<int[]> uses) {

        static Told by(NameScopes x) {
            Told t = new Told(new ArrayList<>(), new ArrayList<>(), new ArrayList<>(), new ArrayList<>());
            for (int s = 0; s < x.count(0); s++) {
                t.parents.add(x.parent(s));
            }
            for (int d = 0; d < x.count(1); d++) {
                t.declarations.add(new int[] {x.declaration(d, 0), x.declaration(d, 1), x.declaration(d, 2)});
            }
            for (int i = 0; i < x.count(2); i++) {
                t.imports.add(new int[] {x.imported(i, 0), x.imported(i, 1), x.imported(i, 2), x.imported(i, 3),
                    x.imported(i, 4), x.imported(i, 5)});
            }
            for (int u = 0; u < x.count(3); u++) {
                t.uses.add(new int[] {x.used(u, 0), x.used(u, 1)});
            }
            return t;
        }

        NameScopes toNewObject() {
            NameScopes x = new NameScopes();
            for (int above : parents.subList(1, parents.size())) {
                x.addScope(above);
            }
            for (int[] d : declarations) {
                x.declare(d[0], d[1], d[2] == 1);
            }
            for (int[] i : imports) {
                if (i[2] == NONE) {
                    x.importAll(i[0], i[1], i[4], i[5] == 1);
                } else {
                    x.importOne(i[0], i[1], i[2], i[3], i[5] == 1);
                }
            }
            for (int[] u : uses) {
                x.use(u[0], u[1]);
            }
            return x;
        }
    }

    private static Set<Integer> firstLayer(NameScopes x, int scope, int name) {
        Set<Integer> found = new TreeSet<>();
        for (int index = 0; x.candidate(scope, name, 0, index) != NONE; index++) {
            found.add(x.candidate(scope, name, 0, index));
        }
        return found;
    }

    private static List<Set<Integer>> outcomes(NameScopes x) {
        List<Set<Integer>> found = new ArrayList<>();
        for (int u = 0; u < x.count(3); u++) {
            found.add(firstLayer(x, x.used(u, 0), x.used(u, 1)));
        }
        return found;
    }

    /** Whether a scope offers a pair, seen from a scope that imports this name of it and has nothing else. */
    private static boolean offersPair(NameScopes x, int scope, int name, int declaration) {
        NameScopes y = Told.by(x).toNewObject();
        int apart = y.addScope(0);
        y.importOne(apart, scope, name, name, false);
        return y.offers(scope, name) > 0 && firstLayer(y, apart, name).contains(declaration);
    }

    /** The rules 1 to 4, on what the object tells. */
    private static Told renamed(NameScopes x, int d, int newName) {
        int oldName = x.declaration(d, 1);
        Told t = Told.by(x);
        t.declarations.get(d)[1] = newName;
        for (int[] i : t.imports) {
            if (offersPair(x, i[1], oldName, d)) {
                if (i[2] == oldName) {
                    i[2] = newName;
                    i[3] = i[3] == oldName ? newName : i[3];
                }
                if ((i[4] & 1 << oldName) != 0) {
                    i[4] |= 1 << newName;
                }
            }
        }
        List<Set<Integer>> before = outcomes(x);
        for (int u = 0; u < before.size(); u++) {
            int[] use = t.uses.get(u);
            if (use[1] == oldName && before.get(u).equals(Set.of(d))) {
                use[1] = newName;
            }
        }
        return t;
    }

    private static boolean clashes(NameScopes x, int d, int name) {
        for (int e = 0; e < x.count(1); e++) {
            if (x.declaration(e, 0) == x.declaration(d, 0) && x.declaration(e, 1) == name) {
                return true;
            }
        }
        return false;
    }

    /** The reason and the lowest use by which it applies. */
    private static int[] refusal(NameScopes x, int d, int name) {
        if (clashes(x, d, name)) {
            return new int[] {1, NONE};
        }
        List<Set<Integer>> before = outcomes(x);
        List<Set<Integer>> after = outcomes(renamed(x, d, name).toNewObject());
        int[] lowest = {NONE, NONE};
        for (int u = before.size() - 1; u >= 0; u--) {
            if (!before.get(u).equals(after.get(u))) {
                lowest[before.get(u).equals(Set.of(d)) ? 0 : 1] = u;
            }
        }
        int reason = lowest[0] != NONE ? 2 : lowest[1] != NONE ? 3 : 0;
        return new int[] {reason, reason == 2 ? lowest[0] : lowest[1]};
    }

    private static int usesToRename(NameScopes x, int d) {
        int found = 0;
        for (int u = 0; u < x.count(3); u++) {
            found += x.used(u, 1) == x.declaration(d, 1) && x.used(u, 2) == d ? 1 : 0;
        }
        return found;
    }

    private static void renameTo(NameScopes x, int d, int name, String text) {
        String what = text + ": " + d + " to " + name;
        int[] due = refusal(x, d, name);
        met[due[0]]++;
        is(what + ", reason", x.ifRenamed(d, name, 0), due[0]);
        is(what + ", lowest use", x.ifRenamed(d, name, 1), due[1]);
        is(what + ", uses", x.ifRenamed(d, name, 2), usesToRename(x, d));
        NameScopes y = Told.by(x).toNewObject();
        NameScopes z = due[0] == 0 ? renamed(x, d, name).toNewObject() : x;
        is(what + ", renaming", y.rename(d, name), due[0]);
        holds(what + ", the state after it", y.digest() == z.digest());
    }

    private static int lowestFree(NameScopes x, int d) {
        for (int name = 0; name < 26; name++) {
            if (refusal(x, d, name)[0] == 0) {
                return name;
            }
        }
        return NONE;
    }

    private static String drawn(Random random) {
        int scopes = 3 + random.nextInt(4);
        StringBuilder text = new StringBuilder();
        for (int n = 1; n < scopes; n++) {
            text.append((char) ('A' + random.nextInt(n))).append("^ ");
        }
        for (int n = 18 + random.nextInt(14); n > 0; n--) {
            char into = (char) ('A' + random.nextInt(scopes));
            char from = (char) ('A' + random.nextInt(scopes));
            char name = (char) ('a' + random.nextInt(4));
            String arrow = random.nextInt(4) > 0 ? "<<" : "<";
            switch (random.nextInt(8)) {
                case 0, 1: text.append(into).append(random.nextInt(4) > 0 ? '.' : '-').append(name); break;
                case 2: text.append(into).append(arrow).append(from); break;
                case 3: text.append(into).append(arrow).append(from).append('/').append(name); break;
                case 4: text.append(into).append(arrow).append(from).append('.').append(name); break;
                case 5: text.append(into).append(arrow).append(from).append('.').append(name).append("=b"); break;
                default: text.append(into).append('?').append(name);
            }
            text.append(' ');
        }
        return text.toString().trim();
    }

    /** An object with those items of a text that it takes. */
    private static NameScopes taking(String text) {
        NameScopes x = new NameScopes();
        for (String item : text.split(" ")) {
            x.clearBuffer();
            put(x, item);
            try {
                x.load();
            } catch (IllegalStateException e) {
                x.clearBuffer();
            }
        }
        return x;
    }

    public static void main(String[] args) {
        for (int seed = 0; seed < OBJECTS; seed++) {
            String text = drawn(new Random(seed));
            NameScopes x = taking(text);
            holds(text + ": told anew, it is the same", Told.by(x).toNewObject().digest() == x.digest());
            for (int d = 0; d < x.count(1); d++) {
                for (int name = 0; name < 5; name++) {
                    renameTo(x, d, name, text);
                }
                is(text + ": free name of " + d, x.freeName(d), lowestFree(x, d));
            }
        }
        System.out.println("free " + met[0] + ", clashes " + met[1] + ", captured " + met[2] + ", capturing " + met[3]);
        for (int reason = 0; reason <= 3; reason++) {
            holds("reason " + reason + " met often", met[reason] > 200);
        }
        end();
    }
}
