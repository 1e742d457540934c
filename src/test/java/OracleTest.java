import java.lang.reflect.Method;
import java.util.ArrayList;
import java.util.Arrays;
import java.util.Comparator;
import java.util.List;
import java.util.Random;

/** Long runs of calls by chance (with fixed seeds), each answer held against the Oracle's. */
public final class OracleTest {
    private static final String[] THEMES = {
        "rule way pay value mix brings steps chance given",
        "flung flung flung flung flung flung flung flung odds comes tried tail told toldAt foreseen foreseenAt answer answers",
        "slate round round round round round round dispute dispute fills had had wrong",
        "heard heard heard heard heard heard beat lates late odds",
        "played left left next has can how",
        ""
    };
    private static final int[] WILD = {-1, 0, 1, 2, 3, 4, 5, 12, 13, 26, -2, 61, 100, 101, 1001, Integer.MAX_VALUE, Integer.MIN_VALUE};

    private final Random random;
    private final List<Method> methods = new ArrayList<>();
    private int habit;
    private int[] cycle;
    private int place;
    private int x, y;

    private OracleTest(long seed) {
        random = new Random(seed);
        for (Method method : FlungFingers.class.getDeclaredMethods()) {
            if (java.lang.reflect.Modifier.isPublic(method.getModifiers())) {
                methods.add(method);
            }
        }
        methods.sort(Comparator.comparing(Method::getName));
    }

    private int one(int... of) {
        return of[random.nextInt(of.length)];
    }

    private int upTo(int most) {
        return random.nextInt(most + 1);
    }

    /** Marks that mostly go on as a game would, so that there are FILLS. */
    private int[] nextMarks(Oracle state) {
        int kind = state.count(0);
        int s = kind == 2 ? Math.max(1, 2 * state.count(1) + upTo(2 * (state.count(2) - state.count(1)))) : 1;
        int who = kind == 0 ? upTo(1) : upTo(2);
        x += who == 0 ? s : 0;
        y += who == 1 ? s : 0;
        int lost = one(0, 1, 2, 3);
        return new int[] {lost == 1 || lost == 3 ? -1 : x - (upTo(9) == 0 ? 1 : 0), lost >= 2 ? -1 : y};
    }

    private int nextThrow(Oracle state) {
        int l = state.count(1), n = state.count(2) - l + 1;
        if (upTo(99) < habit) {
            place = (place + 1) % cycle.length;
            return l + cycle[place] % n;
        }
        return l + upTo(n - 1);
    }

    private int[] arguments(String name, Oracle state) {
        int ways = state.count(3), l = state.count(1), f = state.count(2), n = f - l + 1;
        switch (name) {
            case "rule": { int low = upTo(1); return new int[] {upTo(2), low, low + 1 + upTo(3 - low), 2 + upTo(3)}; }
            case "way": return new int[] {upTo(ways), upTo(1)};
            case "pay": return new int[] {upTo(ways), upTo(ways - 1)};
            case "mix": case "brings": return new int[] {upTo(1), upTo(ways - 1)};
            case "limbs": return new int[] {upTo(1)};
            case "limb": return new int[] {upTo(1), upTo(10)};
            case "chance": return new int[] {1 + upTo(11), 1 + upTo(11)};
            case "given": return new int[] {1 + upTo(11)};
            case "flung": return new int[] {one(0, 0, 0, 1), nextThrow(state)};
            case "odds": return new int[] {one(1, 1, 2, 3, 5, 20, 1000, 100000)};
            case "comes": case "tail": {
                int k = upTo(3);
                int context = random.nextInt((int) Math.pow(n, k));
                return new int[] {one(0, 0, 0, 1), k, context, name.equals("comes") && upTo(2) == 0 ? -1 : l + upTo(n - 1)};
            }
            case "forget": case "tried": case "told": case "foreseen": return new int[] {one(0, 0, 0, 1)};
            case "toldAt": return new int[] {0, upTo(12)};
            case "foreseenAt": return new int[] {0, l + upTo(n - 1)};
            case "answer": return new int[] {0, one(0, 1, 50, 100, 333, 1000, 2000, upTo(9000))};
            case "answers": return new int[] {0, one(0, 1, 50, 100, 333, 1000, 2000, upTo(9000)), upTo(1)};
            case "slate": x = 0; y = 0; return new int[] {one(21, 21, 11, 1 + upTo(20))};
            case "round": return upTo(4) == 0 ? new int[] {one(-1, -1, upTo(60)), -1} : nextMarks(state);
            case "dispute": return new int[] {upTo(Math.max(1, state.count(4))), upTo(1), upTo(2)};
            case "had": return new int[] {upTo(Math.max(1, state.count(4))), upTo(1), upTo(1)};
            case "heard": return new int[] {upTo(1000), upTo(1000), one(-1, 0, 0, 1, 1)};
            case "beat": return new int[] {one(0, 100, 1000, upTo(1000))};
            case "lates": return new int[] {upTo(1), upTo(3)};
            case "late": return new int[] {upTo(1)};
            case "played": return new int[] {upTo(5), upTo(5), upTo(4), upTo(4)};
            case "left": return new int[] {upTo(5), upTo(5)};
            case "next": return new int[] {upTo(4), upTo(4)};
            case "has": case "can": return new int[] {upTo(5)};
            case "how": return new int[] {upTo(9) - 1};
            case "count": return new int[] {upTo(12)};
            default: return new int[0];
        }
    }

    private Object[] call(Method method, Oracle state) {
        int[] plain = arguments(method.getName(), state);
        Object[] all = new Object[plain.length];
        for (int i = 0; i < plain.length; i++) {
            int v = upTo(24) == 0 ? WILD[random.nextInt(WILD.length)] : plain[i];
            all[i] = method.getParameterTypes()[i] == boolean.class ? (Object) (v > 0) : (Object) v;
        }
        return all;
    }

    private Method pick(String theme) {
        String name = null;
        if (!theme.isEmpty() && upTo(99) < 97) {
            String[] words = theme.split(" ");
            name = words[random.nextInt(words.length)];
        }
        Method found = methods.get(random.nextInt(methods.size()));
        for (Method method : methods) {
            if (method.getName().equals(name)) {
                found = method;
            }
        }
        // a theme's state would be lost too often
        boolean loses = found.getName().equals("rule") || found.getName().equals("forget")
            || found.getName().equals("slate") || found.getName().equals("silence");
        return loses && !theme.startsWith("rule") && upTo(9) > 0 ? methods.get(0) : found;
    }

    private boolean run(String theme, int calls) throws Exception {
        FlungFingers real = new FlungFingers();
        Oracle due = new Oracle();
        habit = one(0, 50, 90, 100);
        cycle = random.ints(1 + upTo(4), 0, 60).toArray();
        int[] first = arguments("rule", due);
        real.rule(first[0], first[1], first[2], first[3]);
        due.rule(first[0], first[1], first[2], first[3]);
        if (theme.startsWith("slate")) {
            int p = arguments("slate", due)[0];
            real.slate(p);
            due.slate(p);
        }
        String rule = Arrays.toString(first);
        for (int i = 0; i < calls; i++) {
            Method method = pick(theme);
            Object[] with = call(method, due);
            Object got = method.invoke(real, with);
            Object want = Oracle.class.getMethod(method.getName(), method.getParameterTypes()).invoke(due, with);
            String seen = look(real.limbs(0), real.limbs(1), real.sign(), real.millionths(), real.digest());
            String wanted = look(due.limbs(0), due.limbs(1), due.sign(), due.millionths(), due.digest());
            for (int k = 0; k < 22; k++) {
                seen += " " + real.limb(k % 2, k / 2);
                wanted += " " + due.limb(k % 2, k / 2);
            }
            if (!got.equals(want) || !seen.equals(wanted)) {
                System.out.println("rule " + rule + " call " + i + ": " + method.getName() + Arrays.toString(with) + " answered "
                    + got + ", due is " + want + "\n  " + seen + "\n  " + wanted);
                return false;
            }
        }
        return true;
    }

    private static String look(int a, int b, int c, long d, long e) {
        return a + " " + b + " " + c + " " + d + " " + e;
    }

    public static void main(String[] args) throws Exception {
        int wrong = 0;
        int runs = args.length > 0 ? Integer.parseInt(args[0]) : 120;
        for (int seed = 0; seed < runs; seed++) {
            OracleTest test = new OracleTest(seed);
            if (!test.run(THEMES[seed % THEMES.length], 300)) {
                System.out.println("seed " + seed);
                wrong++;
            }
        }
        System.out.println(wrong == 0 ? "all runs are as the oracle has them" : wrong + " runs are not");
        if (wrong != 0) {
            System.exit(1);
        }
    }
}
