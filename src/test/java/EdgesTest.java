import java.lang.reflect.Method;
import java.lang.reflect.Modifier;
import java.util.ArrayList;
import java.util.Arrays;
import java.util.HashMap;
import java.util.List;
import java.util.Map;
import java.util.TreeMap;

/**
 * Each call with each number at the ends of what the document tells, just outside them and far outside, with one another,
 * on objects that are new, noted in and full; held against the Oracle.
 */
public final class EdgesTest {
    /** An object is used for 512 calls at most; its history and what is looked at have their share of them. */
    private static final int CALLS = 4, FAR_LOW = Integer.MIN_VALUE, FAR_HIGH = Integer.MAX_VALUE;
    private static final Map<String, Method> METHODS = new TreeMap<>(), ORACLE = new HashMap<>();
    private static int wrong, made;

    private final FlungFingers real = new FlungFingers();
    private final Oracle due = new Oracle();

    /** Does the same call on both: whether they answer alike. */
    private boolean call(String name, int... with) throws ReflectiveOperationException {
        Method method = METHODS.get(name);
        Object[] row = new Object[with.length];
        for (int i = 0; i < with.length; i++) {
            row[i] = method.getParameterTypes()[i] == boolean.class ? (Object) (with[i] > 0) : (Object) with[i];
        }
        Object got = method.invoke(real, row), want = ORACLE.get(name).invoke(due, row);
        made++;
        if (!got.equals(want)) {
            System.out.println(name + Arrays.toString(row) + " answered " + got + ", due is " + want);
            wrong++;
        }
        return got.equals(want);
    }

    private void look() throws ReflectiveOperationException {
        boolean alike = call("digest") && call("sign") && call("millionths") && call("limbs", 0) && call("limbs", 1);
        for (int i = 0; i < 10 && alike; i++) {
            alike = call("limb", 0, i) && call("limb", 1, i) && call("how", i);
        }
    }

    private static EdgesTest begin(int history) throws ReflectiveOperationException {
        EdgesTest both = new EdgesTest();
        switch (history) {
            case 1: both.noteSomething(1); break;
            case 2: both.noteSomething(2); break;
            case 3: both.fillRows(); break;
            case 4: both.fillLeague(); break;
            case 5: both.fillSlate(); break;
            default: break;
        }
        return both;
    }

    private void noteSomething(int kind) throws ReflectiveOperationException {
        call("rule", kind, 0, 2, 0);
        call("odds", 2);
        for (int i = 0; i < 25; i++) {
            call("flung", 0, i % 3);
        }
        call("flung", 3, 2);
        call("slate", 5);
        call("round", 1, 0);
        call("round", -1, 0);
        call("round", 1, -1);
        call("dispute", 0, 0, 1);
        call("heard", 500, 300, 0);
        call("heard", 300, 401, 1);
        call("heard", 0, 1000, -1);
        call("played", 0, 1, 5, 3);
        call("left", 1, 2);
        call("left", 2, 0);
        call("can", 2);
        call("tail", 0, 0, 0, 2);
    }

    private void fillRows() throws ReflectiveOperationException {
        call("rule", 0, 0, 4, 5);
        for (int i = 0; i < 120; i++) {
            call("flung", 0, 4);
        }
        for (int i = 0; i < 60; i++) {
            call("heard", i * 13, 300, i % 3 - 1);
        }
        call("brings", 0, 4);
    }

    private void fillLeague() throws ReflectiveOperationException {
        for (int i = 0; i < 100; i++) {
            call("played", i % 6, (i + 1) % 6, i % 3, 1);
        }
        for (int i = 0; i < 9; i++) {
            call("left", i % 6, (i + 2) % 6);
        }
        call("can", 1);
    }

    private void fillSlate() throws ReflectiveOperationException {
        call("rule", 1, 1, 4, 0);
        call("slate", 21);
        for (int i = 0; i < 40; i++) {
            call("round", i % 4 == 0 ? i / 4 : -1, -1);
        }
        call("dispute", 0, 0, 1);
        call("chance", 12, 1);
    }

    /** What each number of a call may be: the least and the greatest that is told, with l, f, WAYS and ROUNDS of now. */
    private int[][] told(String name) {
        int l = real.count(1), f = real.count(2), n = f - l + 1;
        int[] player = {0, 1}, man = {0, 3}, way = {0, real.count(3) - 1}, fingers = {l, f}, team = {0, 5}, points = {0, 100};
        int[] beat = {0, 1000}, round = {0, real.count(4) - 1}, e = {0, real.count(0) == 2 ? 1000 * (2 * f + 1) : 2000};
        switch (name) {
            case "rule": return new int[][] {{0, 2}, {0, 1}, {1, 4}, {2, 5}};
            case "way": return new int[][] {way, {0, 1}};
            case "pay": return new int[][] {way, way};
            case "mix": case "brings": return new int[][] {player, way};
            case "limbs": case "late": return new int[][] {player};
            case "limb": return new int[][] {player, {0, 10}};
            case "chance": return new int[][] {{1, 12}, {1, 12}};
            case "given": return new int[][] {{1, 12}};
            case "flung": case "foreseenAt": return new int[][] {man, fingers};
            case "forget": case "tried": case "told": case "foreseen": return new int[][] {man};
            case "odds": return new int[][] {{1, 100000}};
            case "comes": case "tail": return new int[][] {man, {0, 3}, {0, n * n * n - 1}, fingers};
            case "toldAt": return new int[][] {man, {0, 3}};
            case "answer": return new int[][] {man, e};
            case "answers": return new int[][] {man, e, {0, 1}};
            case "slate": return new int[][] {{1, 21}};
            case "round": return new int[][] {{-1, 60}, {-1, 60}};
            case "dispute": case "had": return new int[][] {round, player, {0, 1}};
            case "heard": return new int[][] {beat, beat, {-1, 1}};
            case "beat": return new int[][] {beat};
            case "lates": return new int[][] {player, {0, 3}};
            case "played": return new int[][] {team, team, points, points};
            case "left": return new int[][] {team, team};
            case "next": return new int[][] {points, points};
            case "has": case "can": return new int[][] {team};
            case "how": return new int[][] {{0, 8}};
            case "count": return new int[][] {{0, 11}};
            default: return new int[0][];
        }
    }

    /** All rows of edges of one call. */
    private List<int[]> rows(String name) {
        int[][] told = told(name);
        List<int[]> all = new ArrayList<>();
        for (int number = 0; number < 1 << 2 * told.length; number++) {
            int[] row = new int[told.length];
            for (int i = 0; i < told.length; i++) {
                int[] edges = {told[i][0], told[i][1], told[i][0] - 1, told[i][1] + 1};
                row[i] = edges[number >> 2 * i & 3];
            }
            all.add(row);
        }
        for (int i = 0; i < told.length; i++) {
            for (int far : new int[] {FAR_LOW, FAR_LOW + 1, -1000000, 1000000, FAR_HIGH - 1, FAR_HIGH}) {
                int[] row = all.get(0).clone();
                row[i] = far;
                all.add(row);
            }
        }
        if (name.equals("comes") || name.equals("tail")) {
            addContexts(all);
        }
        return all;
    }

    /** CONTEXTS of each k have ends of their own. */
    private void addContexts(List<int[]> all) {
        int n = real.count(2) - real.count(1) + 1;
        int contexts = 1;
        for (int k = 0; k <= 3; k++) {
            for (int context : new int[] {-1, 0, contexts - 1, contexts}) {
                for (int fingers = -2; fingers <= 5; fingers++) {
                    all.add(new int[] {0, k, context, fingers});
                }
            }
            contexts *= n;
        }
    }

    private static void sweep(String name, int history) throws ReflectiveOperationException {
        List<int[]> all = begin(history).rows(name);
        EdgesTest both = null;
        for (int i = 0; i < all.size() && wrong < 20; i++) {
            if (i % CALLS == 0) {
                both = begin(history);
            }
            if (!both.call(name, all.get(i))) {
                System.out.println("  by history " + history);
            }
            both.look();
        }
    }

    public static void main(String[] args) throws ReflectiveOperationException {
        for (Method method : FlungFingers.class.getDeclaredMethods()) {
            if (Modifier.isPublic(method.getModifiers())) {
                METHODS.put(method.getName(), method);
                ORACLE.put(method.getName(), Oracle.class.getMethod(method.getName(), method.getParameterTypes()));
            }
        }
        for (String name : METHODS.keySet()) {
            for (int history = 0; history <= 5; history++) {
                sweep(name, history);
            }
        }
        System.out.println(wrong == 0 ? made + " calls at the edges are as due" : wrong + " answers are not as due");
        if (wrong != 0) {
            System.exit(1);
        }
    }
}
