import java.util.ArrayList;
import java.util.HashMap;
import java.util.LinkedHashMap;
import java.util.LinkedHashSet;
import java.util.List;
import java.util.Map;
import java.util.Set;
import java.util.TreeSet;
import java.util.regex.Matcher;
import java.util.regex.Pattern;

/** The document told again with sets and objects, in another way than the program, to compare it with. */
public final class Reference {
    static final class Decl {
        int scope, name;
        boolean pub;
    }

    static final class Imp {
        int into, from, source, local;
        Set<Integer> excepted = new TreeSet<>();
        boolean single, passed;
    }

    static final class Use {
        int scope, name;
    }

    record Pair(int name, Decl decl) { }

    record Layer(int sort, int steps, Set<Decl> decls) { }

    static final class State {
        List<Integer> parents = new ArrayList<>(List.of(-1));
        List<Decl> decls = new ArrayList<>();
        List<Imp> imps = new ArrayList<>();
        List<Use> uses = new ArrayList<>();

        /** A deep copy; the map tells the copy of each declaration, import and use. */
        State copy(Map<Object, Object> map) {
            State s = new State();
            s.parents = new ArrayList<>(parents);
            for (Decl d : decls) {
                Decl e = new Decl();
                e.scope = d.scope;
                e.name = d.name;
                e.pub = d.pub;
                s.decls.add(e);
                map.put(d, e);
            }
            for (Imp i : imps) {
                Imp j = new Imp();
                j.into = i.into;
                j.from = i.from;
                j.source = i.source;
                j.local = i.local;
                j.excepted = new TreeSet<>(i.excepted);
                j.single = i.single;
                j.passed = i.passed;
                s.imps.add(j);
                map.put(i, j);
            }
            for (Use u : uses) {
                Use v = new Use();
                v.scope = u.scope;
                v.name = u.name;
                s.uses.add(v);
                map.put(u, v);
            }
            return s;
        }

        Decl at(int scope, int name) {
            for (Decl d : decls) {
                if (d.scope == scope && d.name == name) {
                    return d;
                }
            }
            return null;
        }

        /** Which pairs a scope offers, from public declarations onwards until nothing is new. */
        List<Set<Pair>> offers() {
            List<Set<Pair>> offers = new ArrayList<>();
            for (int s = 0; s < parents.size(); s++) {
                offers.add(new LinkedHashSet<>());
            }
            for (Decl d : decls) {
                if (d.pub) {
                    offers.get(d.scope).add(new Pair(d.name, d));
                }
            }
            boolean more = true;
            while (more) {
                more = false;
                for (Imp i : imps) {
                    if (i.passed) {
                        for (Pair p : brought(i, offers)) {
                            if (at(i.into, p.name) == null) {
                                more |= offers.get(i.into).add(p);
                            }
                        }
                    }
                }
            }
            return offers;
        }

        static Set<Pair> brought(Imp i, List<Set<Pair>> offers) {
            Set<Pair> result = new LinkedHashSet<>();
            for (Pair p : offers.get(i.from)) {
                if (i.single && p.name == i.source) {
                    result.add(new Pair(i.local, p.decl));
                }
                if (!i.single && !i.excepted.contains(p.name)) {
                    result.add(p);
                }
            }
            return result;
        }

        List<Layer> layers(int scope, int name, List<Set<Pair>> offers) {
            List<Layer> result = new ArrayList<>();
            int steps = 0;
            for (int s = scope; s != -1; s = parents.get(s)) {
                Set<Decl> own = new LinkedHashSet<>();
                if (at(s, name) != null) {
                    own.add(at(s, name));
                }
                Set<Decl> single = new LinkedHashSet<>();
                Set<Decl> full = new LinkedHashSet<>();
                for (Imp i : imps) {
                    if (i.into == s) {
                        for (Pair p : brought(i, offers)) {
                            if (p.name == name) {
                                (i.single ? single : full).add(p.decl);
                            }
                        }
                    }
                }
                List<Set<Decl>> three = List.of(own, single, full);
                for (int sort = 0; sort < 3; sort++) {
                    if (!three.get(sort).isEmpty()) {
                        result.add(new Layer(sort, steps, three.get(sort)));
                    }
                }
                steps++;
            }
            return result;
        }

        Set<Decl> first(int scope, int name, List<Set<Pair>> offers) {
            List<Layer> layers = layers(scope, name, offers);
            return layers.isEmpty() ? Set.of() : layers.get(0).decls;
        }

        Map<Use, Set<Decl>> outcomes() {
            List<Set<Pair>> offers = offers();
            Map<Use, Set<Decl>> result = new LinkedHashMap<>();
            for (Use u : uses) {
                result.put(u, first(u.scope, u.name, offers));
            }
            return result;
        }
    }

    private State now = new State();
    private String buffer = "";

    private static final String IMPORT = "[A-P]<<?[A-P](\\.[a-z](=[a-z])?|/[a-z]+)?";
    private static final String ITEM = "([A-P]\\^|[A-P][.?-][a-z]|" + IMPORT + ")";
    private static final Pattern TEXT = Pattern.compile(ITEM + "(," + ITEM + ")*");

    private static void index(boolean fine) {
        if (!fine) {
            throw new IndexOutOfBoundsException();
        }
    }

    private static void argument(boolean fine) {
        if (!fine) {
            throw new IllegalArgumentException();
        }
    }

    private static void state(boolean fine) {
        if (!fine) {
            throw new IllegalStateException();
        }
    }

    private boolean scopeIs(int s) {
        return s >= 0 && s < now.parents.size();
    }

    private static boolean nameIs(int n) {
        return n >= 0 && n <= 25;
    }

    private static boolean within(int v, int low, int high) {
        return v >= low && v <= high;
    }

    public int begin() {
        int n = now.parents.size();
        now = new State();
        return n;
    }

    public int addScope(int parent) {
        index(scopeIs(parent));
        state(now.parents.size() < 16);
        now.parents.add(parent);
        return now.parents.size() - 1;
    }

    public int declare(int scope, int name, boolean isPublic) {
        index(scopeIs(scope));
        argument(nameIs(name) && now.at(scope, name) == null);
        state(now.decls.size() < 30);
        Decl d = new Decl();
        d.scope = scope;
        d.name = name;
        d.pub = isPublic;
        now.decls.add(d);
        return now.decls.size() - 1;
    }

    public int importOne(int into, int from, int source, int local, boolean passed) {
        index(scopeIs(into) && scopeIs(from));
        argument(into != from && nameIs(source) && nameIs(local));
        state(now.imps.size() < 20);
        Imp i = new Imp();
        i.into = into;
        i.from = from;
        i.source = source;
        i.local = local;
        i.single = true;
        i.passed = passed;
        now.imps.add(i);
        return now.imps.size() - 1;
    }

    public int importAll(int into, int from, int excepted, boolean passed) {
        index(scopeIs(into) && scopeIs(from));
        argument(into != from && excepted >= 0 && excepted <= 67108863);
        state(now.imps.size() < 20);
        Imp i = new Imp();
        i.into = into;
        i.from = from;
        for (int n = 0; n < 26; n++) {
            if ((excepted & (1 << n)) != 0) {
                i.excepted.add(n);
            }
        }
        i.passed = passed;
        now.imps.add(i);
        return now.imps.size() - 1;
    }

    public int use(int scope, int name) {
        index(scopeIs(scope));
        argument(nameIs(name));
        state(now.uses.size() < 30);
        Use u = new Use();
        u.scope = scope;
        u.name = name;
        now.uses.add(u);
        return now.uses.size() - 1;
    }

    public int remove(int sort, int number) {
        argument(within(sort, 0, 2));
        List<?> list = sort == 0 ? now.decls : sort == 1 ? now.imps : now.uses;
        index(within(number, 0, list.size() - 1));
        Map<Use, Set<Decl>> before = now.outcomes();
        list.remove(number);
        Map<Use, Set<Decl>> after = now.outcomes();
        int changed = 0;
        for (Use u : now.uses) {
            changed += before.get(u).equals(after.get(u)) ? 0 : 1;
        }
        return changed;
    }

    public int append(int code) {
        argument(within(code, 33, 126));
        state(buffer.length() < 50);
        buffer += (char) code;
        return buffer.length();
    }

    public int clearBuffer() {
        int n = buffer.length();
        buffer = "";
        return n;
    }

    public int firstError() {
        for (int end = 1; end <= buffer.length(); end++) {
            Matcher m = TEXT.matcher(buffer.substring(0, end));
            if (!m.matches() && !m.hitEnd()) {
                return end - 1;
            }
        }
        return buffer.length();
    }

    public int load() {
        argument(TEXT.matcher(buffer).matches());
        State saved = now.copy(new HashMap<>());
        String[] items = buffer.split(",");
        try {
            for (String item : items) {
                add(item);
            }
        } catch (RuntimeException e) {
            now = saved;
            throw new IllegalStateException(e);
        }
        buffer = "";
        return items.length;
    }

    private void add(String item) {
        int scope = item.charAt(0) - 'A';
        if (item.matches(".\\^")) {
            addScope(scope);
        } else if (item.matches(".[.-].")) {
            declare(scope, item.charAt(2) - 'a', item.charAt(1) == '.');
        } else if (item.matches(".\\?.")) {
            use(scope, item.charAt(2) - 'a');
        } else {
            boolean passed = item.contains("<<");
            String rest = item.replaceFirst("^.<+", "");
            int from = rest.charAt(0) - 'A';
            if (rest.contains(".")) {
                importOne(scope, from, rest.charAt(2) - 'a', rest.charAt(rest.length() - 1) - 'a', passed);
            } else {
                int mask = 0;
                for (char c : rest.replaceFirst("^./?", "").toCharArray()) {
                    mask |= 1 << (c - 'a');
                }
                importAll(scope, from, mask, passed);
            }
        }
    }

    private int numberOfOnly(Set<Decl> set) {
        return set.size() == 1 ? now.decls.indexOf(set.iterator().next()) : -1;
    }

    public int resolve(int scope, int name, int what) {
        index(scopeIs(scope));
        argument(nameIs(name) && within(what, 0, 4));
        List<Layer> layers = now.layers(scope, name, now.offers());
        if (layers.isEmpty()) {
            return what == 1 || what == 4 ? 0 : -1;
        }
        Layer first = layers.get(0);
        return switch (what) {
            case 0 -> numberOfOnly(first.decls);
            case 1 -> first.decls.size();
            case 2 -> first.sort;
            case 3 -> first.steps;
            default -> layers.size() - 1;
        };
    }

    public int candidate(int scope, int name, int layer, int index) {
        index(scopeIs(scope));
        argument(nameIs(name));
        List<Layer> layers = now.layers(scope, name, now.offers());
        if (layer < 0 || layer >= layers.size()) {
            return -1;
        }
        Set<Integer> numbers = new TreeSet<>();
        for (Decl d : layers.get(layer).decls) {
            numbers.add(now.decls.indexOf(d));
        }
        return within(index, 0, numbers.size() - 1) ? new ArrayList<>(numbers).get(index) : -1;
    }

    public int offers(int scope, int name) {
        index(scopeIs(scope));
        argument(nameIs(name));
        int n = 0;
        for (Pair p : now.offers().get(scope)) {
            n += p.name == name ? 1 : 0;
        }
        return n;
    }

    public int visible(int scope, boolean ambiguous) {
        index(scopeIs(scope));
        List<Set<Pair>> offers = now.offers();
        int mask = 0;
        for (int n = 0; n < 26; n++) {
            int size = now.first(scope, n, offers).size();
            if (size > 0 && ambiguous == size > 1) {
                mask += 1 << n;
            }
        }
        return mask;
    }

    private State after;
    private int lowest;

    /** The reason against a renaming; the state after it, if it is no clash, and the lowest use by which it applies. */
    private int reason(int number, int y) {
        lowest = -1;
        Decl d = now.decls.get(number);
        int x = d.name;
        if (x == y || now.at(d.scope, y) != null) {
            return 1;
        }
        List<Set<Pair>> offers = now.offers();
        Map<Use, Set<Decl>> outcomes = now.outcomes();
        Map<Object, Object> map = new HashMap<>();
        after = now.copy(map);
        ((Decl) map.get(d)).name = y;
        for (Imp i : now.imps) {
            Imp j = (Imp) map.get(i);
            boolean bringsIt = false;
            for (Pair p : State.brought(i, offers)) {
                bringsIt |= p.decl == d;
            }
            if (i.single && i.source == x && bringsIt) {
                j.source = y;
                if (i.local == x) {
                    j.local = y;
                }
            }
            if (!i.single && i.excepted.contains(x) && offers.get(i.from).contains(new Pair(x, d))) {
                j.excepted.add(y);
            }
        }
        for (Use u : now.uses) {
            if (u.name == x && outcomes.get(u).equals(Set.of(d))) {
                ((Use) map.get(u)).name = y;
            }
        }
        Map<Use, Set<Decl>> later = after.outcomes();
        int second = -1;
        int third = -1;
        for (int n = now.uses.size() - 1; n >= 0; n--) {
            Use u = now.uses.get(n);
            Set<Decl> mapped = new LinkedHashSet<>();
            for (Decl e : outcomes.get(u)) {
                mapped.add((Decl) map.get(e));
            }
            if (!mapped.equals(later.get(after.uses.get(n)))) {
                if (outcomes.get(u).equals(Set.of(d))) {
                    second = n;
                } else {
                    third = n;
                }
            }
        }
        lowest = second >= 0 ? second : third;
        return second >= 0 ? 2 : third >= 0 ? 3 : 0;
    }

    public int rename(int declaration, int name) {
        index(within(declaration, 0, now.decls.size() - 1));
        argument(nameIs(name));
        int r = reason(declaration, name);
        if (r == 0) {
            now = after;
        }
        return r;
    }

    public int ifRenamed(int declaration, int name, int what) {
        index(within(declaration, 0, now.decls.size() - 1));
        argument(nameIs(name) && within(what, 0, 2));
        if (what == 2) {
            int n = 0;
            Decl d = now.decls.get(declaration);
            for (Map.Entry<Use, Set<Decl>> e : now.outcomes().entrySet()) {
                n += e.getKey().name == d.name && e.getValue().equals(Set.of(d)) ? 1 : 0;
            }
            return n;
        }
        int r = reason(declaration, name);
        return what == 0 ? r : lowest;
    }

    public int freeName(int declaration) {
        index(within(declaration, 0, now.decls.size() - 1));
        for (int n = 0; n < 26; n++) {
            if (reason(declaration, n) == 0) {
                return n;
            }
        }
        return -1;
    }

    private int depth(int scope) {
        return scope == 0 ? 0 : 1 + depth(now.parents.get(scope));
    }

    public int count(int what) {
        argument(within(what, 0, 10));
        int n = 0;
        switch (what) {
            case 0: return now.parents.size();
            case 1: return now.decls.size();
            case 2: return now.imps.size();
            case 3: return now.uses.size();
            case 4:
                for (Set<Decl> o : now.outcomes().values()) {
                    n += o.size() == 1 ? 1 : 0;
                }
                return n;
            case 5:
                for (Set<Decl> o : now.outcomes().values()) {
                    n += o.size() > 1 ? 1 : 0;
                }
                return n;
            case 6:
                for (int d = 0; d < now.decls.size(); d++) {
                    n += declaration(d, 3) == 0 ? 1 : 0;
                }
                return n;
            case 7:
                for (int i = 0; i < now.imps.size(); i++) {
                    n += imported(i, 7) == 0 ? 1 : 0;
                }
                return n;
            case 8:
                for (int i = 0; i < now.imps.size(); i++) {
                    n += now.imps.get(i).single && imported(i, 6) == 0 ? 1 : 0;
                }
                return n;
            case 9:
                for (int s = 0; s < now.parents.size(); s++) {
                    n = Math.max(n, depth(s));
                }
                return n;
            default:
                for (Set<Pair> o : now.offers()) {
                    n += o.size();
                }
                return n;
        }
    }

    public int declaration(int declaration, int what) {
        index(within(declaration, 0, now.decls.size() - 1));
        argument(within(what, 0, 5));
        Decl d = now.decls.get(declaration);
        int n = 0;
        switch (what) {
            case 0: return d.scope;
            case 1: return d.name;
            case 2: return d.pub ? 1 : 0;
            case 3:
                for (Set<Decl> o : now.outcomes().values()) {
                    n += o.equals(Set.of(d)) ? 1 : 0;
                }
                return n;
            case 4:
                for (Set<Pair> o : now.offers()) {
                    n += o.stream().anyMatch(p -> p.decl == d) ? 1 : 0;
                }
                return n;
            default:
                for (int s = 0; s < now.parents.size(); s++) {
                    n += now.first(s, d.name, now.offers()).equals(Set.of(d)) ? 1 : 0;
                }
                return n;
        }
    }

    public int imported(int number, int what) {
        index(within(number, 0, now.imps.size() - 1));
        argument(within(what, 0, 7));
        Imp i = now.imps.get(number);
        switch (what) {
            case 0: return i.into;
            case 1: return i.from;
            case 2: return i.single ? i.source : -1;
            case 3: return i.single ? i.local : -1;
            case 4:
                int mask = 0;
                for (int n : i.excepted) {
                    mask += 1 << n;
                }
                return mask;
            case 5: return i.passed ? 1 : 0;
            case 6: return State.brought(i, now.offers()).size();
            default:
                Map<Use, Set<Decl>> with = now.outcomes();
                now.imps.remove(number);
                Map<Use, Set<Decl>> without = now.outcomes();
                now.imps.add(number, i);
                int n = 0;
                for (Use u : now.uses) {
                    n += with.get(u).equals(without.get(u)) ? 0 : 1;
                }
                return n;
        }
    }

    public int used(int number, int what) {
        index(within(number, 0, now.uses.size() - 1));
        argument(within(what, 0, 3));
        Use u = now.uses.get(number);
        if (what < 2) {
            return what == 0 ? u.scope : u.name;
        }
        int found = resolve(u.scope, u.name, 0);
        if (what == 2) {
            return found;
        }
        int size = resolve(u.scope, u.name, 1);
        return size == 1 ? 0 : size == 0 ? 1 : resolve(u.scope, u.name, 2) + 1;
    }

    public int parent(int scope) {
        index(scopeIs(scope));
        return now.parents.get(scope);
    }

    public double resolvedShare() {
        return now.uses.isEmpty() ? 1.0 : (double) count(4) / (double) count(3);
    }

    public long digest() {
        List<Integer> values = new ArrayList<>();
        for (int w = 0; w <= 10; w++) {
            values.add(count(w));
        }
        for (int s = 0; s < now.parents.size(); s++) {
            values.addAll(List.of(parent(s), visible(s, false), visible(s, true)));
        }
        for (int d = 0; d < now.decls.size(); d++) {
            for (int w = 0; w <= 5; w++) {
                values.add(declaration(d, w));
            }
        }
        for (int i = 0; i < now.imps.size(); i++) {
            for (int w = 0; w <= 7; w++) {
                values.add(imported(i, w));
            }
        }
        for (int u = 0; u < now.uses.size(); u++) {
            for (int w = 0; w <= 3; w++) {
                values.add(used(u, w));
            }
        }
        values.add(buffer.length());
        for (char c : buffer.toCharArray()) {
            values.add((int) c);
        }
        long hash = 1997;
        for (int v : values) {
            hash = 31 * hash + v;
        }
        return hash;
    }
}
