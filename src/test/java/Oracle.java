import java.math.BigInteger;
import java.util.ArrayList;
import java.util.Arrays;
import java.util.HashMap;
import java.util.List;
import java.util.Map;
import java.util.TreeMap;

/** The document once more, written slowly and plainly over BigInteger; the class is held against it. */
public final class Oracle {
    private static final int NONE = -1, BAD = -2, NO = -3, FULL = -4;
    private int kind = 0, l = 1, f = 2, m = 2, odds = 20, slack = 100, goal = 1, done = 0;
    private Ratio fraction = Ratio.ZERO;
    private final List<List<Integer>> men = new ArrayList<>();
    private final List<int[]> rounds = new ArrayList<>();
    private final List<int[]> heard = new ArrayList<>();
    private final int[] points = new int[6];
    private final List<int[]> left = new ArrayList<>();
    private int[] results = new int[0];
    private Solved solved;
    /** Kept for all runs, as they are dear. */
    private static final Map<Integer, Ratio> tails = new HashMap<>();
    private static final Map<String, Solved> games = new HashMap<>();

    public Oracle() {
        for (int i = 0; i < 4; i++) {
            men.add(new ArrayList<>());
        }
    }

    private record Solved(Ratio value, Ratio[] first, Ratio[] second, int steps, int e) { }

    private static boolean in(int v, int a, int b) {
        return v >= a && v <= b;
    }

    private int n() {
        return f - l + 1;
    }

    private List<int[]> ways() {
        List<int[]> all = new ArrayList<>();
        for (int t = l; t <= f; t++) {
            if (kind == 0) {
                all.add(new int[] {t, NONE});
            }
            for (int call = t + l; kind != 0 && call <= t + f; call++) {
                all.add(new int[] {t, call});
            }
        }
        return all;
    }

    private int payOf(int[] a, int[] b) {
        int sum = a[0] + b[0];
        if (kind == 0) {
            return sum % m == 0 ? 1 : -1;
        }
        boolean x = a[1] == sum, y = b[1] == sum;
        return x == y ? 0 : (x ? 1 : -1) * (kind == 1 ? 1 : sum);
    }

    private Solved solve() {
        solved = solved != null ? solved : games.computeIfAbsent(kind + " " + l + " " + f + " " + m, key -> work());
        return solved;
    }

    private Solved work() {
        List<int[]> w = ways();
        int n = w.size();
        int e = 0;
        for (int[] a : w) {
            for (int[] b : w) {
                e = Math.max(e, Math.abs(payOf(a, b)));
            }
        }
        e++;
        BigInteger[][] t = new BigInteger[n + 1][2 * n + 1];
        int[] in = new int[n];
        for (int i = 0; i <= n; i++) {
            for (int j = 0; j <= 2 * n; j++) {
                int v;
                if (i == n) {
                    v = j < n ? -1 : 0;
                } else {
                    v = j < n ? payOf(w.get(i), w.get(j)) + e : j == 2 * n || j == n + i ? 1 : 0;
                }
                t[i][j] = BigInteger.valueOf(v);
            }
            if (i < n) {
                in[i] = n + i;
            }
        }
        BigInteger d = BigInteger.ONE;
        int steps = 0;
        while (true) {
            int column = 0;
            while (column < 2 * n && t[n][column].signum() >= 0) {
                column++;
            }
            if (column == 2 * n) {
                break;
            }
            int row = -1;
            for (int i = 0; i < n; i++) {
                if (t[i][column].signum() > 0) {
                    int c = row < 0 ? -1 : new Ratio(t[i][2 * n], t[i][column]).compareTo(new Ratio(t[row][2 * n], t[row][column]));
                    if (c < 0 || c == 0 && in[i] < in[row]) {
                        row = i;
                    }
                }
            }
            BigInteger p = t[row][column];
            for (int i = 0; i <= n; i++) {
                if (i == row) {
                    continue;
                }
                BigInteger y = t[i][column];
                for (int j = 0; j <= 2 * n; j++) {
                    t[i][j] = t[i][j].multiply(p).subtract(y.multiply(t[row][j])).divide(d);
                }
            }
            d = p;
            in[row] = column;
            steps++;
        }
        BigInteger z = t[n][2 * n];
        Ratio[] first = new Ratio[n], second = new Ratio[n];
        Arrays.fill(second, Ratio.ZERO);
        for (int i = 0; i < n; i++) {
            first[i] = new Ratio(t[n][n + i], z);
            if (in[i] < n) {
                second[in[i]] = new Ratio(t[i][2 * n], z);
            }
        }
        return new Solved(new Ratio(d, z).minus(Ratio.of(e)), first, second, steps, e);
    }

    public int rule(int kind, int l, int f, int m) {
        if (!in(kind, 0, 2) || !in(l, 0, 1) || f <= l || f > 4 || kind == 0 && !in(m, 2, 5)) {
            return BAD;
        }
        this.kind = kind;
        this.l = l;
        this.f = f;
        this.m = kind == 0 ? m : 0;
        solved = null;
        for (List<Integer> row : men) {
            row.clear();
        }
        return ways().size();
    }

    public int way(int i, int what) {
        return !in(i, 0, ways().size() - 1) || !in(what, 0, 1) ? -100 : ways().get(i)[what];
    }

    public int pay(int i, int j) {
        List<int[]> w = ways();
        return !in(i, 0, w.size() - 1) || !in(j, 0, w.size() - 1) ? -100 : payOf(w.get(i), w.get(j));
    }

    public int value() {
        fraction = solve().value;
        return fraction.sign();
    }

    public int mix(int player, int i) {
        if (!in(player, 0, 1) || !in(i, 0, ways().size() - 1)) {
            return BAD;
        }
        fraction = (player == 0 ? solve().first : solve().second)[i];
        return fraction.sign() > 0 ? 1 : 0;
    }

    public int brings(int player, int i) {
        if (!in(player, 0, 1) || !in(i, 0, ways().size() - 1)) {
            return -100;
        }
        fraction = earned(player, i);
        return fraction.sign();
    }

    private Ratio earned(int player, int i) {
        List<int[]> w = ways();
        Ratio all = Ratio.ZERO;
        for (int k = 0; k < w.size(); k++) {
            Ratio share = (player == 0 ? solve().first : solve().second)[k];
            all = all.plus(share.times(Ratio.of(player == 0 ? payOf(w.get(k), w.get(i)) : payOf(w.get(i), w.get(k)))));
        }
        return all;
    }

    public int steps() {
        return solve().steps;
    }

    private BigInteger size(int part) {
        return part == 0 ? fraction.above.abs() : fraction.below;
    }

    public int limbs(int part) {
        return in(part, 0, 1) ? (size(part).bitLength() + 29) / 30 : BAD;
    }

    public int limb(int part, int i) {
        if (!in(part, 0, 1) || i < 0) {
            return BAD;
        }
        return i >= limbs(part) ? NONE : size(part).shiftRight(30 * i).mod(BigInteger.valueOf(1073741824)).intValueExact();
    }

    public int sign() {
        return fraction.sign();
    }

    public long millionths() {
        BigInteger most = BigInteger.valueOf(1000000000000L);
        return fraction.times(Ratio.of(1000000)).floor().min(most).max(most.negate()).longValueExact();
    }

    private Ratio hit() {
        return kind == 1 ? Ratio.HALF : solve().value.plus(Ratio.ONE).times(Ratio.HALF);
    }

    /** By how the first a + b - 1 SCORES fall: PLAYER 0 has a of them or more. */
    private Ratio chanceOf(int a, int b) {
        Ratio q = hit(), all = Ratio.ZERO;
        int n = a + b - 1;
        for (int i = a; i <= n; i++) {
            Ratio one = new Ratio(choose(n, i), BigInteger.ONE);
            for (int k = 0; k < n; k++) {
                one = one.times(k < i ? q : Ratio.ONE.minus(q));
            }
            all = all.plus(one);
        }
        return all;
    }

    private static BigInteger choose(int n, int k) {
        BigInteger all = k < 0 || k > n ? BigInteger.ZERO : BigInteger.ONE;
        for (int i = 0; i < k; i++) {
            all = all.multiply(BigInteger.valueOf(n - i)).divide(BigInteger.valueOf(i + 1));
        }
        return all;
    }

    public int chance(int a, int b) {
        if (!in(a, 1, 12) || !in(b, 1, 12)) {
            return BAD;
        }
        if (kind == 2) {
            return NO;
        }
        fraction = chanceOf(a, b);
        return 1;
    }

    public int given(int p) {
        if (!in(p, 1, 12)) {
            return -100;
        }
        if (kind == 2) {
            return -200;
        }
        int side = hit().compareTo(Ratio.HALF);
        int g = 0;
        while (side > 0 && g < p - 1 && chanceOf(p, p - g).compareTo(Ratio.HALF) > 0) {
            g++;
        }
        while (side < 0 && g < p - 1 && chanceOf(p - g, p).compareTo(Ratio.HALF) < 0) {
            g++;
        }
        return side < 0 ? -g : g;
    }

    public int flung(int man, int fingers) {
        if (!in(man, 0, 3) || !in(fingers, l, f)) {
            return BAD;
        }
        if (men.get(man).size() == 120) {
            return FULL;
        }
        men.get(man).add(fingers);
        return men.get(man).size();
    }

    public int forget(int man) {
        if (!in(man, 0, 3)) {
            return BAD;
        }
        int was = men.get(man).size();
        men.get(man).clear();
        return was;
    }

    public int odds(int v) {
        if (!in(v, 1, 100000)) {
            return BAD;
        }
        int was = odds;
        odds = v;
        return was;
    }

    private int power(int k) {
        return k == 0 ? 1 : n() * power(k - 1);
    }

    private int number(List<Integer> some) {
        int all = 0;
        for (int v : some) {
            all = all * n() + v - l;
        }
        return all;
    }

    private int places(int man, int k, int context, int fingers) {
        List<Integer> row = men.get(man);
        int all = 0;
        for (int i = k; i < row.size(); i++) {
            if (number(row.subList(i - k, i)) == context && (fingers == NONE || row.get(i) == fingers)) {
                all++;
            }
        }
        return all;
    }

    private boolean isPlace(int man, int k, int context) {
        return in(man, 0, 3) && in(k, 0, 3) && in(context, 0, power(k) - 1);
    }

    public int comes(int man, int k, int context, int fingers) {
        if (!isPlace(man, k, context) || fingers != NONE && !in(fingers, l, f)) {
            return BAD;
        }
        return places(man, k, context, fingers);
    }

    public int tried(int man) {
        if (!in(man, 0, 3)) {
            return BAD;
        }
        int all = 0;
        for (int k = 0; k <= 3; k++) {
            for (int context = 0; context < power(k); context++) {
                all += places(man, k, context, NONE) > 0 ? n() : 0;
            }
        }
        return all;
    }

    private Ratio tailOf(int man, int k, int context, int fingers) {
        int places = places(man, k, context, NONE), least = places(man, k, context, fingers);
        return tails.computeIfAbsent(1000000 * n() + 1000 * places + least, key -> newTail(places, least));
    }

    private Ratio newTail(int places, int least) {
        BigInteger all = BigInteger.ZERO;
        for (int i = least; i <= places; i++) {
            all = all.add(choose(places, i).multiply(BigInteger.valueOf(n() - 1).pow(places - i)));
        }
        return new Ratio(all, BigInteger.valueOf(n()).pow(places));
    }

    private boolean isTold(int man, int k, int context, int fingers, int tried) {
        return places(man, k, context, NONE) > 0
            && tailOf(man, k, context, fingers).times(Ratio.of(tried)).times(Ratio.of(odds)).compareTo(Ratio.ONE) <= 0;
    }

    public int tail(int man, int k, int context, int fingers) {
        if (!isPlace(man, k, context) || !in(fingers, l, f)) {
            return BAD;
        }
        if (places(man, k, context, NONE) == 0) {
            return NO;
        }
        fraction = tailOf(man, k, context, fingers);
        return isTold(man, k, context, fingers, tried(man)) ? 1 : 0;
    }

    private List<Integer> toldOf(int man) {
        List<Integer> all = new ArrayList<>();
        int tried = tried(man);
        for (int k = 0; k <= 3; k++) {
            for (int context = 0; context < power(k); context++) {
                for (int fingers = l; fingers <= f; fingers++) {
                    if (isTold(man, k, context, fingers, tried)) {
                        all.add(10000 * k + 10 * context + fingers);
                    }
                }
            }
        }
        return all;
    }

    public int told(int man) {
        return in(man, 0, 3) ? toldOf(man).size() : BAD;
    }

    public int toldAt(int man, int i) {
        if (!in(man, 0, 3) || i < 0) {
            return BAD;
        }
        List<Integer> all = toldOf(man);
        return i < all.size() ? all.get(i) : NONE;
    }

    private int lastContext(int man, int k) {
        List<Integer> row = men.get(man);
        return number(row.subList(row.size() - k, row.size()));
    }

    public int foreseen(int man) {
        if (!in(man, 0, 3)) {
            return BAD;
        }
        List<Integer> told = toldOf(man);
        for (int k = 3; k >= 0; k--) {
            for (int fingers = l; fingers <= f; fingers++) {
                if (k <= men.get(man).size() && told.contains(10000 * k + 10 * lastContext(man, k) + fingers)) {
                    return k;
                }
            }
        }
        return NONE;
    }

    public int foreseenAt(int man, int fingers) {
        if (!in(man, 0, 3) || !in(fingers, l, f)) {
            return BAD;
        }
        int k = foreseen(man);
        return k == NONE ? NONE : places(man, k, lastContext(man, k), fingers);
    }

    private record Reply(int way, Ratio t, Ratio mean, Ratio worst) { }

    private Ratio blend(Ratio t, Ratio mixed, Ratio pure) {
        return Ratio.ONE.minus(t).times(mixed).plus(t.times(pure));
    }

    private Reply reply(int man, int e) {
        List<int[]> w = ways();
        int n = w.size(), all = 0;
        int[] seen = new int[5];
        for (int fingers = l; fingers <= f; fingers++) {
            seen[fingers] = foreseenAt(man, fingers);
            all += seen[fingers];
        }
        Ratio[] earned = new Ratio[n];
        for (int j = 0; j < n; j++) {
            earned[j] = earned(0, j);
        }
        Ratio[] mean = new Ratio[n];
        Ratio g = Ratio.ZERO;
        for (int i = 0; i < n; i++) {
            mean[i] = Ratio.ZERO;
            for (int j = 0; j < n; j++) {
                Ratio share = Ratio.of(seen[w.get(j)[0]], (long) all * (kind == 0 ? 1 : n()));
                mean[i] = mean[i].plus(share.times(Ratio.of(payOf(w.get(i), w.get(j)))));
            }
            g = g.plus(solve().first[i].times(mean[i]));
        }
        Ratio least = solve().value.minus(Ratio.of(e, 1000)), best = null;
        Reply found = null;
        for (int i = 0; i < n; i++) {
            Ratio t = Ratio.ONE;
            for (int j = 0; j < n; j++) {
                Ratio mixed = earned[j], pure = Ratio.of(payOf(w.get(i), w.get(j)));
                if (blend(t, mixed, pure).compareTo(least) < 0) {
                    t = mixed.minus(least).by(mixed.minus(pure));
                }
            }
            Ratio gain = mean[i].minus(g);
            if (gain.sign() > 0 && (best == null || t.times(gain).compareTo(best) > 0)) {
                best = t.times(gain);
                Ratio worst = null;
                for (int j = 0; j < n; j++) {
                    Ratio v = blend(t, earned[j], Ratio.of(payOf(w.get(i), w.get(j))));
                    worst = worst == null || v.compareTo(worst) < 0 ? v : worst;
                }
                found = new Reply(i, t, blend(t, g, mean[i]), worst);
            }
        }
        return found;
    }

    public int answer(int man, int e) {
        if (!in(man, 0, 3) || !in(e, 0, 1000 * solve().e)) {
            return BAD;
        }
        if (foreseen(man) == NONE) {
            return NO;
        }
        Reply found = reply(man, e);
        if (found == null) {
            return NONE;
        }
        fraction = found.t;
        return found.way;
    }

    public int answers(int man, int e, int what) {
        if (!in(man, 0, 3) || !in(e, 0, 1000 * solve().e) || !in(what, 0, 1)) {
            return -100;
        }
        if (foreseen(man) == NONE) {
            return -200;
        }
        Reply found = reply(man, e);
        if (found == null) {
            return -300;
        }
        fraction = what == 0 ? found.mean : found.worst;
        return fraction.sign();
    }

    public int slate(int p) {
        if (!in(p, 1, 21)) {
            return BAD;
        }
        goal = p;
        rounds.clear();
        return 1;
    }

    public int round(int a, int b) {
        if (!in(a, -1, 60) || !in(b, -1, 60)) {
            return BAD;
        }
        if (rounds.size() == 40) {
            return FULL;
        }
        rounds.add(new int[] {a, b, 0, 0});
        return rounds.size();
    }

    public int dispute(int i, int player, boolean is) {
        if (!in(i, 0, rounds.size() - 1) || !in(player, 0, 1)) {
            return BAD;
        }
        if (rounds.get(i)[player] == NONE) {
            return NO;
        }
        rounds.get(i)[2 + player] = is ? 1 : 0;
        return 1;
    }

    private static boolean fits(int[] round, int player, int v) {
        int mark = round[player];
        return mark == NONE || v == mark || round[2 + player] == 1 && v == mark + 1;
    }

    private List<int[]> after(int x, int y) {
        List<int[]> all = new ArrayList<>();
        if (x >= goal || y >= goal) {
            return all;
        }
        if (kind != 0) {
            all.add(new int[] {x, y});
        }
        for (int s = 1; s <= 8; s++) {
            if (kind == 2 ? in(s, 2 * l, 2 * f) : s == 1) {
                all.add(new int[] {x + s, y});
                all.add(new int[] {x, y + s});
            }
        }
        return all;
    }

    /** How many rows of the ROUNDS up to but not with the last-th lead to each pair; 1000 x and y is the key. */
    private List<Map<Integer, BigInteger>> layers() {
        List<Map<Integer, BigInteger>> all = new ArrayList<>();
        all.add(new TreeMap<>(Map.of(0, BigInteger.ONE)));
        for (int[] round : rounds) {
            Map<Integer, BigInteger> next = new TreeMap<>();
            all.get(all.size() - 1).forEach((key, v) -> {
                for (int[] to : after(key / 1000, key % 1000)) {
                    if (fits(round, 0, to[0]) && fits(round, 1, to[1])) {
                        next.merge(1000 * to[0] + to[1], v, BigInteger::add);
                    }
                }
            });
            all.add(next);
        }
        return all;
    }

    public long fills() {
        List<Map<Integer, BigInteger>> all = layers();
        BigInteger sum = BigInteger.ZERO;
        for (BigInteger v : all.get(rounds.size()).values()) {
            sum = sum.add(v);
        }
        return sum.min(BigInteger.valueOf(1000000000000000000L)).longValueExact();
    }

    public int had(int i, int player, boolean most) {
        if (!in(i, 0, rounds.size() - 1) || !in(player, 0, 1)) {
            return BAD;
        }
        int[] was = rounds.get(i).clone();
        int found = NONE;
        for (int v = 0; v <= 61; v++) {
            if (fits(was, player, v)) {
                rounds.get(i)[player] = v;
                rounds.get(i)[2 + player] = 0;
                if (fills() > 0 && (most || found == NONE)) {
                    found = v;
                }
            }
        }
        rounds.set(i, was);
        return found;
    }

    public int wrong() {
        List<Map<Integer, BigInteger>> all = layers();
        for (int i = 0; i < rounds.size(); i++) {
            if (all.get(i + 1).isEmpty()) {
                return i;
            }
        }
        return NONE;
    }

    public int heard(int x, int y, int scored) {
        if (!in(x, 0, 1000) || !in(y, 0, 1000) || !in(scored, -1, 1)) {
            return BAD;
        }
        if (heard.size() == 60) {
            return FULL;
        }
        heard.add(new int[] {x, y, scored});
        return heard.size();
    }

    public int beat(int v) {
        if (!in(v, 0, 1000)) {
            return BAD;
        }
        int was = slack;
        slack = v;
        return was;
    }

    public int lates(int player, int what) {
        if (!in(player, 0, 1) || !in(what, 0, 3)) {
            return BAD;
        }
        int[] all = new int[4];
        for (int[] h : heard) {
            if (h[2] != NONE) {
                boolean late = h[player] > h[1 - player] + slack, scored = h[2] == player;
                all[0]++;
                all[1] += late ? 1 : 0;
                all[2] += scored ? 1 : 0;
                all[3] += late && scored ? 1 : 0;
            }
        }
        return all[what];
    }

    public int late(int player) {
        if (!in(player, 0, 1)) {
            return BAD;
        }
        int n = lates(player, 0), k = lates(player, 1), w = lates(player, 2);
        BigInteger all = BigInteger.ZERO;
        for (int i = lates(player, 3); i <= k; i++) {
            all = all.add(choose(w, i).multiply(choose(n - w, k - i)));
        }
        fraction = new Ratio(all, choose(n, k));
        return fraction.times(Ratio.of(odds)).compareTo(Ratio.ONE) <= 0 ? 1 : 0;
    }

    public int silence() {
        int was = heard.size();
        heard.clear();
        return was;
    }

    public int played(int a, int b, int x, int y) {
        if (!in(a, 0, 5) || !in(b, 0, 5) || a == b || !in(x, 0, 100) || !in(y, 0, 100)) {
            return BAD;
        }
        if (done == 100) {
            return FULL;
        }
        done++;
        points[a] += x > y ? 2 : x == y ? 1 : 0;
        points[b] += y > x ? 2 : x == y ? 1 : 0;
        return 1;
    }

    public int left(int a, int b) {
        if (!in(a, 0, 5) || !in(b, 0, 5) || a == b) {
            return BAD;
        }
        if (left.size() == 9) {
            return FULL;
        }
        left.add(new int[] {a, b});
        return left.size();
    }

    public int next(int x, int y) {
        if (!in(x, 0, 100) || !in(y, 0, 100)) {
            return BAD;
        }
        if (left.isEmpty()) {
            return NO;
        }
        if (done == 100) {
            return FULL;
        }
        int[] game = left.remove(0);
        played(game[0], game[1], x, y);
        return left.size();
    }

    public int has(int team) {
        return in(team, 0, 5) ? points[team] : BAD;
    }

    public int can(int team) {
        if (!in(team, 0, 5)) {
            return BAD;
        }
        int size = left.size(), all = 1;
        for (int i = 0; i < size; i++) {
            all *= 3;
        }
        for (int code = 0; code < all; code++) {
            int[] trial = new int[size], after = points.clone();
            int rest = code;
            for (int i = size - 1; i >= 0; i--) {
                trial[i] = rest % 3;
                rest /= 3;
                after[left.get(i)[0]] += 2 - trial[i];
                after[left.get(i)[1]] += trial[i];
            }
            if (Arrays.stream(after).max().getAsInt() == after[team]) {
                results = trial;
                return 1;
            }
        }
        return 0;
    }

    public int how(int i) {
        return in(i, 0, results.length - 1) ? results[i] : NONE;
    }

    public int count(int what) {
        int[] all = {kind, l, f, ways().size(), rounds.size(), heard.size(), done, left.size(), odds, slack, goal, m};
        return in(what, 0, 11) ? all[what] : BAD;
    }

    public long digest() {
        List<Integer> all = new ArrayList<>();
        for (int what = 0; what < 12; what++) {
            all.add(count(what));
        }
        for (List<Integer> row : men) {
            all.add(row.size());
            all.addAll(row);
        }
        for (List<int[]> rows : List.of(rounds, heard)) {
            for (int[] row : rows) {
                for (int v : row) {
                    all.add(v);
                }
            }
        }
        for (int team = 0; team < 6; team++) {
            all.add(has(team));
        }
        long h = 257;
        for (int v : all) {
            h = 31 * h + v;
        }
        return h;
    }
}
