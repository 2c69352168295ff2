import java.lang.reflect.InvocationTargetException;
import java.lang.reflect.Method;
import java.util.ArrayList;
import java.util.List;
import java.util.Random;

/** Runs of calls drawn from fixed seeds, answered by the program and by the reference alike. */
public final class RandomRunsTest {
    private static final int RUNS = 600;
    private static final int[] EDGES = {
        Integer.MIN_VALUE, Integer.MAX_VALUE, -1, -2, 5, 8, 11, 16, 25, 26, 30, 31, 1 << 26, (1 << 26) - 1};

    private final Random random;
    private final int names;
    private final int scopes;
    private final double wild;
    private final NameScopes program = new NameScopes();
    private final Reference reference = new Reference();
    private final List<String> told = new ArrayList<>();
    private static int wrong = 0;
    private static long[] met = new long[4];

    private RandomRunsTest(long seed) {
        random = new Random(seed);
        names = 1 + random.nextInt(random.nextBoolean() ? 4 : 26);
        scopes = 1 + random.nextInt(random.nextBoolean() ? 5 : 16);
        wild = random.nextBoolean() ? 0 : 0.03;
    }

    private int pick(int bound) {
        if (random.nextDouble() < wild) {
            return EDGES[random.nextInt(EDGES.length)];
        }
        return random.nextInt(Math.max(1, bound));
    }

    private int name() {
        return pick(names);
    }

    private int scope() {
        return pick(program.count(0));
    }

    private boolean flag() {
        return random.nextInt(3) > 0;
    }

    private int mask() {
        if (random.nextDouble() < wild) {
            return EDGES[random.nextInt(EDGES.length)];
        }
        return random.nextInt(1 << 26) & random.nextInt(1 << 26) & random.nextInt(1 << 26);
    }

    static Object answer(Object object, String method, Object... args) {
        for (Method m : object.getClass().getMethods()) {
            if (m.getName().equals(method) && m.getParameterCount() == args.length
                    && m.getDeclaringClass() == object.getClass()) {
                try {
                    return m.invoke(object, args);
                } catch (InvocationTargetException e) {
                    return e.getCause().getClass();
                } catch (IllegalAccessException e) {
                    throw new AssertionError(e);
                }
            }
        }
        throw new AssertionError(method);
    }

    private Object both(String method, Object... args) {
        Object due = answer(reference, method, args);
        Object got = answer(program, method, args);
        told.add(method + List.of(args) + " = " + got);
        if (!due.equals(got)) {
            wrong++;
            if (wrong < 4) {
                System.out.println(String.join("\n", told) + "\n  due is " + due);
            }
        }
        return due;
    }

    private String letters(String from, int most) {
        StringBuilder s = new StringBuilder();
        for (int n = 1 + random.nextInt(most); n > 0; n--) {
            s.append(from.charAt(random.nextInt(from.length())));
        }
        return s.toString();
    }

    private String item() {
        String scope = letters("ABCDEFGHIJKLMNOP".substring(0, Math.min(16, 1 + program.count(0))), 1);
        String other = letters("ABCDEFGHIJKLMNOP".substring(0, Math.min(16, 1 + program.count(0))), 1);
        String alphabet = "abcdefghijklmnopqrstuvwxyz".substring(0, names);
        String name = letters(alphabet, 1);
        String arrow = flag() ? "<<" : "<";
        switch (random.nextInt(7)) {
            case 0: return scope + "^";
            case 1: return scope + "." + name;
            case 2: return scope + "-" + name;
            case 3: return scope + "?" + name;
            case 4: return scope + arrow + other + "." + name + (flag() ? "" : "=" + letters(alphabet, 1));
            case 5: return scope + arrow + other;
            default: return scope + arrow + other + "/" + letters(alphabet, 3);
        }
    }

    private void text() {
        if (flag()) {
            both("clearBuffer");
        }
        StringBuilder s = new StringBuilder(item());
        for (int n = random.nextInt(random.nextInt(4) == 0 ? 20 : 3); n > 0; n--) {
            s.append(',').append(item());
        }
        if (random.nextInt(4) == 0) {
            s.setCharAt(random.nextInt(s.length()), letters("ABPQaz.,-?<=/^~!`{@", 1).charAt(0));
        }
        if (random.nextInt(6) == 0) {
            s.setLength(random.nextInt(s.length()));
        }
        for (char c : s.toString().toCharArray()) {
            both("append", (int) c);
        }
        both("firstError");
        if (flag()) {
            both("load");
        }
    }

    private void build() {
        switch (random.nextInt(16)) {
            case 0:
            case 1:
                if (program.count(0) < scopes || random.nextInt(20) == 0) {
                    both("addScope", scope());
                }
                break;
            case 2:
            case 3:
            case 4: both("declare", scope(), name(), flag()); break;
            case 5:
            case 6:
            case 7: both("importOne", scope(), scope(), name(), name(), flag()); break;
            case 8:
            case 9: both("importAll", scope(), scope(), flag() ? 0 : mask(), flag()); break;
            case 10:
            case 11:
            case 12: both("use", scope(), name()); break;
            case 13:
                int sort = pick(3);
                both("remove", sort, pick(sort >= 0 && sort < 3 ? program.count(1 + sort) : 1));
                break;
            case 14: text(); break;
            default: both("append", random.nextInt(4) == 0 ? random.nextInt(256) - 64 : 33 + random.nextInt(94));
        }
    }

    private void ask() {
        int d = pick(program.count(1));
        switch (random.nextInt(17)) {
            case 0: both("resolve", scope(), name(), pick(5)); break;
            case 1: both("candidate", scope(), name(), pick(4), pick(3)); break;
            case 2: both("offers", scope(), name()); break;
            case 3: both("visible", scope(), flag()); break;
            case 4:
            case 5:
            case 6:
                Object reason = both("rename", d, random.nextInt(4) == 0 ? pick(26) : name());
                if (reason instanceof Integer r) {
                    met[r]++;
                }
                break;
            case 7:
            case 8:
            case 9: both("ifRenamed", d, name(), pick(3)); break;
            case 10: both("freeName", d); break;
            case 11: both("count", pick(11)); break;
            case 12: both("declaration", d, pick(6)); break;
            case 13: both("imported", pick(program.count(2)), pick(8)); break;
            case 14: both("used", pick(program.count(3)), pick(4)); break;
            case 15: both("parent", scope()); break;
            default: both("resolvedShare");
        }
    }

    /** Fills every list to its limit, so that the calls after it meet the ends of all rows. */
    private void fill() {
        while (program.count(0) < 16) {
            both("addScope", random.nextInt(program.count(0)));
        }
        while (program.count(1) < 30) {
            both("declare", random.nextInt(16), random.nextInt(26), flag());
        }
        while (program.count(2) < 20) {
            if (flag()) {
                both("importOne", random.nextInt(16), random.nextInt(16), random.nextInt(26), name(), flag());
            } else {
                both("importAll", random.nextInt(16), random.nextInt(16), mask(), flag());
            }
        }
        while (program.count(3) < 30) {
            both("use", random.nextInt(16), random.nextInt(26));
        }
        for (int d = 0; d < 30; d++) {
            both("freeName", d);
            both("rename", d, random.nextInt(26));
        }
        both("digest");
    }

    private void run(boolean filled) {
        if (filled) {
            fill();
        }
        int calls = 60 + random.nextInt(140);
        for (int n = 0; n < calls; n++) {
            if (random.nextInt(3) > 0 && n < calls * 3 / 4) {
                build();
            } else {
                ask();
            }
            if (random.nextInt(12) == 0) {
                both("digest");
            }
            if (random.nextInt(400) == 0) {
                both("begin");
            }
        }
        both("digest");
    }

    public static void main(String[] args) {
        int runs = args.length > 0 ? Integer.parseInt(args[0]) : RUNS;
        long first = args.length > 1 ? Long.parseLong(args[1]) : 0;
        for (int seed = 0; seed < runs; seed++) {
            new RandomRunsTest(first + seed).run(seed % 25 == 0);
        }
        System.out.println("renamed " + met[0] + ", clashes " + met[1]
            + ", captured " + met[2] + ", capturing " + met[3]);
        for (long m : met) {
            wrong += m == 0 ? 1 : 0;
        }
        System.out.println(wrong == 0 ? "all random runs agree" : wrong + " answers are wrong");
        System.exit(wrong == 0 ? 0 : 1);
    }
}
