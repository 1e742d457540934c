import java.util.Arrays;

/**
 * Fingers flung and sums called: rules, games worked exactly, matches, habits of men, answers to them,
 * slates with gaps, late throws and a league. Every row is made with the object and used again, so that
 * no call makes an object.
 */
public final class FlungFingers {
    public static final int NONE = -1, BAD = -2, NO = -3, FULL = -4;

    private static final int FAR_BAD = -100, FAR_NO = -200, FAR_NONE = -300;
    private static final int MULTIPLES = 0, ONE = 1, SUM = 2;
    private static final int FIRST_ODDS = 20, MOST_ODDS = 100000, MOST_NEEDED = 12;

    private final Rule law = new Rule();
    private final Game game = new Game(law);
    private final Fraction fraction = new Fraction();
    private final Match match = new Match(law, game);
    private final Men men = new Men(law);
    private final Reply reply = new Reply(law, game);
    private final Slate marks = new Slate(law);
    private final Beats beats = new Beats();
    private final League league = new League();
    private int oddsNow = FIRST_ODDS;

    public FlungFingers() {
    }

    // ---- rules, games

    public int rule(int kind, int l, int f, int m) {
        if (!Rule.allows(kind, l, f, m)) {
            return BAD;
        }
        if (!law.isLike(kind, l, f, m)) {
            law.become(kind, l, f, m);
            game.putAside();
            marks.startAgain();
        }
        men.forgetAll();
        return law.wayCount;
    }

    public int way(int i, int what) {
        if (!law.hasWay(i) || !isEither(what)) {
            return FAR_BAD;
        }
        return what == 0 ? law.throwOf(i) : law.callOf(i);
    }

    public int pay(int i, int j) {
        if (!law.hasWay(i) || !law.hasWay(j)) {
            return FAR_BAD;
        }
        return law.payOf(i, j);
    }

    public int value() {
        game.work();
        fraction.become(game.worth(), game.z);
        return fraction.signum;
    }

    public int mix(int player, int i) {
        if (!isEither(player) || !law.hasWay(i)) {
            return BAD;
        }
        game.work();
        fraction.become(game.share(player, i), game.z);
        return fraction.signum;
    }

    public int brings(int player, int i) {
        if (!isEither(player) || !law.hasWay(i)) {
            return FAR_BAD;
        }
        game.work();
        fraction.become(game.earnedAgainst(player, i), game.z);
        return fraction.signum;
    }

    public int steps() {
        game.work();
        return game.turns;
    }

    // ---- the fraction

    public int limbs(int part) {
        return isEither(part) ? fraction.part(part).size : BAD;
    }

    public int limb(int part, int i) {
        if (!isEither(part) || i < 0) {
            return BAD;
        }
        Big big = fraction.part(part);
        return i < big.size ? big.digit(i) : NONE;
    }

    public int sign() {
        return fraction.signum;
    }

    public long millionths() {
        return fraction.floorMillionths();
    }

    // ---- matches

    public int chance(int a, int b) {
        if (!isWithin(a, 1, MOST_NEEDED) || !isWithin(b, 1, MOST_NEEDED)) {
            return BAD;
        }
        if (law.kind == SUM) {
            return NO;
        }
        match.work(a, b);
        fraction.become(match.above, match.below);
        return 1;
    }

    public int given(int p) {
        if (!isWithin(p, 1, MOST_NEEDED)) {
            return FAR_BAD;
        }
        return law.kind == SUM ? FAR_NO : match.pointsGiven(p);
    }

    // ---- men

    public int flung(int man, int fingers) {
        if (!Men.isMan(man) || !law.isThrow(fingers)) {
            return BAD;
        }
        return men.add(man, fingers);
    }

    public int forget(int man) {
        return Men.isMan(man) ? men.clear(man) : BAD;
    }

    public int odds(int v) {
        if (!isWithin(v, 1, MOST_ODDS)) {
            return BAD;
        }
        int was = oddsNow;
        oddsNow = v;
        return was;
    }

    public int comes(int man, int k, int context, int fingers) {
        if (!men.isPlace(man, k, context) || fingers != NONE && !law.isThrow(fingers)) {
            return BAD;
        }
        men.tally(man, k);
        return fingers == NONE ? men.places(context) : men.followed(context, fingers);
    }

    public int tried(int man) {
        return Men.isMan(man) ? men.triedBy(man) : BAD;
    }

    public int tail(int man, int k, int context, int fingers) {
        if (!men.isPlace(man, k, context) || !law.isThrow(fingers)) {
            return BAD;
        }
        int times = men.triedBy(man) * oddsNow;
        men.tally(man, k);
        if (men.places(context) == 0) {
            return NO;
        }
        boolean isTold = men.isRare(context, fingers, times, true);
        fraction.reduce(1, men.chances.sum, men.chances.power);
        return isTold ? 1 : 0;
    }

    public int told(int man) {
        return Men.isMan(man) ? men.listTold(man, oddsNow) : BAD;
    }

    public int toldAt(int man, int i) {
        if (!Men.isMan(man) || i < 0) {
            return BAD;
        }
        return i < men.listTold(man, oddsNow) ? men.codeAt(i) : NONE;
    }

    public int foreseen(int man) {
        return Men.isMan(man) ? men.foresee(man, oddsNow) : BAD;
    }

    public int foreseenAt(int man, int fingers) {
        if (!Men.isMan(man) || !law.isThrow(fingers)) {
            return BAD;
        }
        return men.foresee(man, oddsNow) == NONE ? NONE : men.foreseenCount(fingers);
    }

    public int answer(int man, int e) {
        int found = findReply(man, e);
        if (found >= 0) {
            fraction.become(reply.top, Reply.THOUSAND * reply.low);
        }
        return found;
    }

    public int answers(int man, int e, int what) {
        int found = isEither(what) ? findReply(man, e) : BAD;
        if (found == BAD) {
            return FAR_BAD;
        }
        if (found == NO) {
            return FAR_NO;
        }
        if (found == NONE) {
            return FAR_NONE;
        }
        if (what == 0) {
            reply.putMean(fraction);
        } else {
            reply.putWorst(fraction);
        }
        return fraction.signum;
    }

    private int findReply(int man, int e) {
        if (!Men.isMan(man) || !isWithin(e, 0, 1000 * law.bound())) {
            return BAD;
        }
        return men.foresee(man, oddsNow) == NONE ? NO : reply.seek(men, e);
    }

    // ---- slates, beats

    public int slate(int p) {
        if (!isWithin(p, 1, Slate.MOST_POINTS)) {
            return BAD;
        }
        marks.begin(p);
        return 1;
    }

    public int round(int a, int b) {
        if (!isWithin(a, NONE, Slate.MOST_MARK) || !isWithin(b, NONE, Slate.MOST_MARK)) {
            return BAD;
        }
        return marks.add(a, b);
    }

    public int dispute(int i, int player, boolean is) {
        if (!marks.hasMark(i, player)) {
            return BAD;
        }
        return marks.setDisputed(i, player, is);
    }

    public long fills() {
        return marks.countFills();
    }

    public int had(int i, int player, boolean most) {
        if (!marks.hasMark(i, player)) {
            return BAD;
        }
        return marks.findHad(i, player, most);
    }

    public int wrong() {
        return marks.reachAll();
    }

    public int heard(int x, int y, int scored) {
        if (!isWithin(x, 0, Beats.MOST_BEAT) || !isWithin(y, 0, Beats.MOST_BEAT) || !isWithin(scored, NONE, 1)) {
            return BAD;
        }
        return beats.add(x, y, scored);
    }

    public int beat(int v) {
        if (!isWithin(v, 0, Beats.MOST_BEAT)) {
            return BAD;
        }
        int was = beats.slack;
        beats.slack = v;
        return was;
    }

    public int lates(int player, int what) {
        if (!isEither(player) || !isWithin(what, 0, 3)) {
            return BAD;
        }
        return beats.tally(player, what);
    }

    public int late(int player) {
        if (!isEither(player)) {
            return BAD;
        }
        beats.work(player);
        fraction.become(beats.above, beats.below);
        // the product with ODDS could pass a long's end, the whole part of the quotient can't
        return beats.above <= beats.below / Math.max(1, oddsNow) ? 1 : 0;
    }

    public int silence() {
        return beats.clear();
    }

    // ---- leagues

    public int played(int a, int b, int x, int y) {
        if (!League.isGame(a, b) || !League.arePoints(x, y)) {
            return BAD;
        }
        return league.play(a, b, x, y);
    }

    public int left(int a, int b) {
        return League.isGame(a, b) ? league.leave(a, b) : BAD;
    }

    public int next(int x, int y) {
        return League.arePoints(x, y) ? league.playFirst(x, y) : BAD;
    }

    public int has(int team) {
        return League.isTeam(team) ? league.points[team] : BAD;
    }

    public int can(int team) {
        return League.isTeam(team) ? league.seek(team) : BAD;
    }

    public int how(int i) {
        return league.resultAt(i);
    }

    public int count(int what) {
        switch (what) {
            case 0: return law.kind;
            case 1: return law.low;
            case 2: return law.high;
            case 3: return law.wayCount;
            case 4: return marks.rounds;
            case 5: return beats.size;
            case 6: return league.games;
            case 7: return league.open;
            case 8: return oddsNow;
            case 9: return beats.slack;
            case 10: return marks.goal;
            case 11: return law.multiple;
            default: return BAD;
        }
    }

    public long digest() {
        long h = 257;
        for (int what = 0; what <= 11; what++) {
            h = 31 * h + count(what);
        }
        h = men.fold(h);
        h = marks.fold(h);
        h = beats.fold(h);
        return league.fold(h);
    }

    private static boolean isWithin(int v, int least, int most) {
        return v >= least && v <= most;
    }

    /** Whether v is 0 or 1, as a PLAYER, a part of THE FRACTION and some questions are. */
    private static boolean isEither(int v) {
        return v == 0 || v == 1;
    }

    /** A RULE as a table: its WAYS and what they pay. */
    private static final class Rule {
        static final int MOST_WAYS = 25, MOST_THROWS = 5;

        private final int[] thrown = new int[MOST_WAYS];
        private final int[] called = new int[MOST_WAYS];
        int kind, low, high, multiple;
        int throwCount;
        int wayCount;

        Rule() {
            become(MULTIPLES, 1, 2, 2);
        }

        static boolean allows(int kind, int l, int f, int m) {
            if (!isWithin(kind, MULTIPLES, SUM) || !isEither(l) || !isWithin(f, l + 1, 4)) {
                return false;
            }
            return kind != MULTIPLES || isWithin(m, 2, 5);
        }

        boolean isLike(int otherKind, int l, int f, int m) {
            return kind == otherKind && low == l && high == f && (kind != MULTIPLES || multiple == m);
        }

        void become(int newKind, int l, int f, int m) {
            kind = newKind;
            low = l;
            high = f;
            multiple = newKind == MULTIPLES ? m : 0;
            throwCount = f - l + 1;
            wayCount = 0;
            for (int fingers = l; fingers <= f; fingers++) {
                if (newKind == MULTIPLES) {
                    addWay(fingers, NONE);
                }
                for (int other = l; other <= f && newKind != MULTIPLES; other++) {
                    addWay(fingers, fingers + other);
                }
            }
        }

        boolean hasWay(int i) {
            return isWithin(i, 0, wayCount - 1);
        }

        boolean isThrow(int fingers) {
            return isWithin(fingers, low, high);
        }

        int throwOf(int i) {
            return thrown[i];
        }

        int callOf(int i) {
            return called[i];
        }

        int payOf(int i, int j) {
            int sum = thrown[i] + thrown[j];
            if (kind == MULTIPLES) {
                return multiple > 0 && sum % multiple == 0 ? 1 : -1;
            }
            int right = (called[i] == sum ? 1 : 0) - (called[j] == sum ? 1 : 0);
            return kind == ONE ? right : right * sum;
        }

        /** E: of SUM the greatest PAY is that of both throwing f with one of them right. */
        int bound() {
            return kind == SUM ? 2 * high + 1 : 2;
        }

        private void addWay(int fingers, int call) {
            if (wayCount < MOST_WAYS) {
                thrown[wayCount] = fingers;
                called[wayCount] = call;
                wayCount++;
            }
        }
    }

    /**
     * THE STEPS. Of all RULES that can be, the greatest number in a row has 26 bits and the greatest
     * product 50, so that longs hold them.
     */
    private static final class Game {
        private static final int WIDTH = 2 * Rule.MOST_WAYS + 1, MOST_TURNS = 100000;

        private final Rule law;
        private final long[] cells = new long[(Rule.MOST_WAYS + 1) * WIDTH];
        private final int[] in = new int[Rule.MOST_WAYS];
        private final long[] second = new long[Rule.MOST_WAYS];
        private int ways;
        private boolean isWorked;
        private long d = 1;
        long z = 1;
        int turns;

        Game(Rule law) {
            this.law = law;
        }

        void putAside() {
            isWorked = false;
        }

        void work() {
            if (isWorked) {
                return;
            }
            lay();
            turns = 0;
            for (int turn = 0; turn < MOST_TURNS; turn++) {
                int column = findColumn();
                int row = column == NONE ? NONE : findRow(column);
                if (row == NONE) {
                    break;
                }
                bringIn(row, column);
                turns++;
            }
            z = Math.max(1, cells[ways * WIDTH + 2 * ways]);
            readSecond();
            isWorked = true;
        }

        /** THE VALUE times Z. */
        long worth() {
            return d - law.bound() * z;
        }

        /** Of THE MIX of a PLAYER that of WAY i, times Z. */
        long share(int player, int i) {
            return player == 0 ? cells[ways * WIDTH + ways + i] : second[i];
        }

        /** What THE MIX of a PLAYER brings PLAYER 0 against WAY i, times Z. */
        long earnedAgainst(int player, int i) {
            long all = 0;
            for (int k = 0; k < ways; k++) {
                int paid = player == 0 ? law.payOf(k, i) : law.payOf(i, k);
                all += share(player, k) * paid;
            }
            return all;
        }

        private void lay() {
            Arrays.fill(cells, 0);
            ways = law.wayCount;
            d = 1;
            for (int i = 0; i < ways; i++) {
                int row = i * WIDTH;
                for (int j = 0; j < ways; j++) {
                    cells[row + j] = law.payOf(i, j) + law.bound();
                }
                cells[row + ways + i] = 1;
                cells[row + 2 * ways] = 1;
                cells[ways * WIDTH + i] = -1;
                in[i] = ways + i;
            }
        }

        private int findColumn() {
            for (int j = 0; j < 2 * ways; j++) {
                if (cells[ways * WIDTH + j] < 0) {
                    return j;
                }
            }
            return NONE;
        }

        private int findRow(int column) {
            int best = NONE;
            for (int i = 0; i < ways; i++) {
                if (cells[i * WIDTH + column] > 0 && (best == NONE || goesBefore(i, best, column))) {
                    best = i;
                }
            }
            return best;
        }

        private boolean goesBefore(int i, int best, int column) {
            long mine = cells[i * WIDTH + 2 * ways] * cells[best * WIDTH + column];
            long other = cells[best * WIDTH + 2 * ways] * cells[i * WIDTH + column];
            return mine < other || mine == other && in[i] < in[best];
        }

        private void bringIn(int row, int column) {
            long p = cells[row * WIDTH + column];
            for (int i = 0; i <= ways; i++) {
                if (i != row) {
                    changeRow(i, row, column, p);
                }
            }
            d = p;
            in[row] = column;
        }

        private void changeRow(int i, int row, int column, long p) {
            long y = cells[i * WIDTH + column];
            if (y == 0 && p == d || d == 0) {
                return;
            }
            for (int j = 0; j <= 2 * ways; j++) {
                long x = cells[i * WIDTH + j];
                long above = x * p - y * cells[row * WIDTH + j];
                if (x != 0 || above != 0) {
                    cells[i * WIDTH + j] = above / d;
                }
            }
        }

        private void readSecond() {
            Arrays.fill(second, 0);
            for (int i = 0; i < ways; i++) {
                if (in[i] < ways) {
                    second[in[i]] = cells[i * WIDTH + 2 * ways];
                }
            }
        }
    }

    /** A whole number that is not below 0; the longest in use has some 310 bits, ROOM is for 480. */
    private static final class Big {
        private static final int ROOM = 16, BITS = 30, MASK = (1 << BITS) - 1;

        private final int[] digits = new int[ROOM];
        int size;

        int digit(int i) {
            return i >= 0 && i < size ? digits[i] : 0;
        }

        /** Of a long that is not below 0. */
        void become(long v) {
            for (int i = 0; i < 3; i++) {
                digits[i] = (int) (v >>> (BITS * i)) & MASK;
            }
            size = 3;
            trim();
        }

        void copy(Big other) {
            System.arraycopy(other.digits, 0, digits, 0, ROOM);
            size = other.size;
        }

        /** The number itself, of at most two digits. */
        long toLong() {
            return ((long) digit(1) << BITS) + digit(0);
        }

        int against(Big other) {
            for (int i = Math.max(size, other.size) - 1; i >= 0; i--) {
                if (digit(i) != other.digit(i)) {
                    return digit(i) < other.digit(i) ? -1 : 1;
                }
            }
            return 0;
        }

        void add(Big other) {
            int length = Math.max(size, other.size);
            long carry = 0;
            for (int i = 0; i < length; i++) {
                carry += (long) digit(i) + other.digit(i);
                digits[i] = (int) carry & MASK;
                carry >>= BITS;
            }
            size = length;
            push(carry);
        }

        /** Takes off a number that is no greater. */
        void take(Big other) {
            long carry = 0;
            for (int i = 0; i < size; i++) {
                carry += (long) digits[i] - other.digit(i);
                digits[i] = (int) carry & MASK;
                carry >>= BITS;
            }
            trim();
        }

        void multiply(int v) {
            long carry = 0;
            for (int i = 0; i < size; i++) {
                carry += (long) digits[i] * v;
                digits[i] = (int) carry & MASK;
                carry >>= BITS;
            }
            push(carry);
            trim();
        }

        void becomeProduct(Big a, Big b) {
            Arrays.fill(digits, 0);
            for (int i = 0; i < a.size; i++) {
                long carry = 0;
                for (int j = 0; j <= b.size && i + j < ROOM; j++) {
                    carry += digits[i + j] + (long) a.digits[i] * b.digit(j);
                    digits[i + j] = (int) carry & MASK;
                    carry >>= BITS;
                }
            }
            size = ROOM;
            trim();
        }

        /** Divides by v, above 0: what remains. */
        int shorten(int v) {
            if (v <= 0) {
                return 0;
            }
            long rest = 0;
            for (int i = size - 1; i >= 0; i--) {
                rest = (rest << BITS) + digits[i];
                digits[i] = (int) (rest / v);
                rest %= v;
            }
            trim();
            return (int) rest;
        }

        /** Divides by another number, bit by bit; what remains is put in rest. */
        void divide(Big by, Big rest) {
            if (by.size == 1) {
                rest.become(shorten(by.digit(0)));
                return;
            }
            rest.size = 0;
            for (int i = size - 1; i >= 0; i--) {
                int quotient = 0;
                for (int bit = BITS - 1; bit >= 0; bit--) {
                    rest.multiply(2);
                    rest.addBit((digits[i] >> bit) & 1);
                    if (rest.against(by) >= 0) {
                        rest.take(by);
                        quotient |= 1 << bit;
                    }
                }
                digits[i] = quotient;
            }
            trim();
        }

        /** How many times it can be halved. */
        int halvings() {
            for (int i = 0; i < size; i++) {
                if (digits[i] != 0) {
                    return BITS * i + Integer.numberOfTrailingZeros(digits[i]);
                }
            }
            return 0;
        }

        void halve(int times) {
            int whole = times / BITS;
            int part = times % BITS;
            for (int i = 0; i < size; i++) {
                long both = ((long) digit(i + whole + 1) << BITS) + digit(i + whole);
                digits[i] = (int) (both >> part) & MASK;
            }
            trim();
        }

        /** Adds 0 or 1 to an even number. */
        private void addBit(int bit) {
            if (size == 0) {
                push(bit);
            } else {
                digits[0] |= bit;
            }
        }

        private void push(long top) {
            if (top > 0 && size < ROOM) {
                digits[size] = (int) top & MASK;
                size++;
            }
        }

        private void trim() {
            for (int i = size - 1; i >= 0 && digits[i] == 0; i--) {
                size = i;
            }
        }
    }

    /** THE FRACTION, in lowest terms. */
    private static final class Fraction {
        private static final long MOST_MILLIONTHS = 1000000000000L;
        private static final int MOST_HALVINGS = 10000;

        private final Big above = new Big();
        private final Big below = new Big();
        private final Big common = new Big();
        private final Big spare = new Big();
        int signum;

        Fraction() {
            below.become(1);
        }

        Big part(int which) {
            return which == 0 ? above : below;
        }

        /** Of longs, the lower one above 0. */
        void become(long top, long bottom) {
            long size = Math.abs(top);
            long shared = Math.max(1, commonOf(size, bottom));
            above.become(size / shared);
            below.become(bottom / shared);
            signum = Long.compare(top, 0);
        }

        /** Of sizes of which the lower one is above 0; the sign is looked at if the upper one is, too. */
        void reduce(int side, Big top, Big bottom) {
            above.copy(top);
            below.copy(bottom);
            if (above.size == 0) {
                below.become(1);
                signum = 0;
                return;
            }
            signum = side;
            int twos = Math.min(above.halvings(), below.halvings());
            above.halve(twos);
            below.halve(twos);
            findCommon();
            if (common.size > 1 || common.digit(0) > 1) {
                above.divide(common, spare);
                below.divide(common, spare);
            }
        }

        long floorMillionths() {
            common.copy(above);
            common.multiply(1000000);
            common.divide(below, spare);
            long size = common.size > 2 ? MOST_MILLIONTHS : common.toLong();
            if (signum < 0 && spare.size > 0) {
                size++;
            }
            size = Math.min(size, MOST_MILLIONTHS);
            return signum < 0 ? -size : size;
        }

        static long commonOf(long a, long b) {
            long high = a;
            long low = b;
            for (int i = 0; i < 1000 && low != 0; i++) {
                long rest = high % low;
                high = low;
                low = rest;
            }
            return high;
        }

        /** The greatest odd number by which both can be divided is put in common. */
        private void findCommon() {
            common.copy(above);
            common.halve(common.halvings());
            spare.copy(below);
            spare.halve(spare.halvings());
            for (int i = 0; i < MOST_HALVINGS; i++) {
                int order = common.against(spare);
                if (order == 0) {
                    break;
                }
                if (order > 0) {
                    common.take(spare);
                    common.halve(common.halvings());
                } else {
                    spare.take(common);
                    spare.halve(spare.halvings());
                }
            }
        }
    }

    /**
     * A MATCH. Of all RULES that can be, Q in lowest terms is by 5 at most, so that THE CHANCE is by
     * the 23rd power of 5 at most, which a long holds.
     */
    private static final class Match {
        private final Rule law;
        private final Game game;
        private final long[] row = new long[MOST_NEEDED + 1];
        private long hit = 1;
        private long base = 2;
        long above;
        long below = 1;

        Match(Rule law, Game game) {
            this.law = law;
            this.game = game;
        }

        /** THE CHANCE with a, b is put in above, below. */
        void work(int a, int b) {
            findHit();
            play(a, b);
        }

        int pointsGiven(int p) {
            findHit();
            int side = Long.compare(2 * hit, base);
            if (side == 0) {
                return 0;
            }
            for (int g = 0; g < p; g++) {
                if (isEven(p, g, side)) {
                    return side * g;
                }
            }
            return side * (p - 1);
        }

        private void play(int a, int b) {
            Arrays.fill(row, 0);
            long power = 1;
            // row[i] by the (i + j - 1)-th power of base is THE CHANCE with i, j
            for (int j = 1; j <= b; j++) {
                row[0] = power;
                for (int i = 1; i <= a; i++) {
                    row[i] = hit * row[i - 1] + (base - hit) * row[i];
                }
                power *= base;
            }
            for (int i = 1; i < a; i++) {
                power *= base;
            }
            above = row[a];
            below = power;
        }

        private boolean isEven(int p, int g, int side) {
            if (side > 0) {
                play(p, p - g);
                return 2 * above <= below;
            }
            play(p - g, p);
            return 2 * above >= below;
        }

        /** Q is hit by base. */
        private void findHit() {
            hit = 1;
            base = 2;
            if (law.kind == MULTIPLES) {
                game.work();
                long top = game.worth() + game.z;
                long shared = Math.max(1, Fraction.commonOf(top, 2 * game.z));
                hit = top / shared;
                base = 2 * game.z / shared;
            }
        }
    }

    /** THE TAIL in whole numbers: sum by power. */
    private static final class Tail {
        final Big sum = new Big();
        final Big power = new Big();
        private final Big term = new Big();
        private final Big limit = new Big();

        /**
         * Whether the chance that of so many places least or more have one of n alike throws is, taken
         * times, no more than 1. If not whole, the sum may be left as soon as it is too great.
         */
        boolean isRare(int places, int least, int n, int times, boolean whole) {
            power.become(1);
            for (int i = 0; i < places; i++) {
                power.multiply(n);
            }
            limit.copy(power);
            limit.shorten(times);
            sum.become(0);
            term.become(1);
            for (int i = places; i >= least && i >= 0; i--) {
                sum.add(term);
                if (!whole && sum.against(limit) > 0) {
                    return false;
                }
                term.multiply(i * (n - 1));
                term.shorten(places - i + 1);
            }
            return sum.against(limit) <= 0;
        }
    }

    /** MEN and their ROWS; what was tallied last stays until the next tally. */
    private static final class Men {
        private static final int MEN = 4, LONGEST = 120, MOST_K = 3, MOST_CONTEXTS = 125;
        private static final int MOST_TOLD = 780;

        private final Rule law;
        private final int[] rows = new int[MEN * LONGEST];
        private final int[] lengths = new int[MEN];
        private final int[] counts = new int[MOST_CONTEXTS * Rule.MOST_THROWS];
        private final int[] codes = new int[MOST_TOLD];
        private int contextNow;
        final Tail chances = new Tail();

        Men(Rule law) {
            this.law = law;
        }

        static boolean isMan(int man) {
            return isWithin(man, 0, MEN - 1);
        }

        boolean isPlace(int man, int k, int context) {
            return isMan(man) && isWithin(k, 0, MOST_K) && isWithin(context, 0, contextCount(k) - 1);
        }

        int add(int man, int fingers) {
            int length = lengths[man];
            if (length >= LONGEST) {
                return FULL;
            }
            rows[man * LONGEST + length] = fingers;
            lengths[man] = length + 1;
            return length + 1;
        }

        int clear(int man) {
            int was = lengths[man];
            lengths[man] = 0;
            return was;
        }

        void forgetAll() {
            Arrays.fill(lengths, 0);
        }

        /** Tallies what follows each CONTEXT of k. */
        void tally(int man, int k) {
            int n = law.throwCount;
            int contexts = Math.max(1, contextCount(k));
            Arrays.fill(counts, 0);
            int context = 0;
            for (int i = 0; i < lengths[man]; i++) {
                int thrown = rows[man * LONGEST + i] - law.low;
                if (i >= k) {
                    counts[context * n + thrown]++;
                }
                context = (context * n + thrown) % contexts;
            }
            contextNow = context;
        }

        /** How often a CONTEXT that was tallied COMES. */
        int places(int context) {
            int n = law.throwCount;
            int all = 0;
            for (int i = 0; i < n; i++) {
                all += counts[context * n + i];
            }
            return all;
        }

        int followed(int context, int fingers) {
            return counts[context * law.throwCount + fingers - law.low];
        }

        int triedBy(int man) {
            int all = 0;
            for (int k = 0; k <= MOST_K; k++) {
                tally(man, k);
                for (int context = 0; context < contextCount(k); context++) {
                    all += places(context) > 0 ? 1 : 0;
                }
            }
            return all * law.throwCount;
        }

        /**
         * Whether a throw behind a CONTEXT that was tallied is TOLD; times is TRIED times ODDS. If whole,
         * THE TAIL is in chances then.
         */
        boolean isRare(int context, int fingers, int times, boolean whole) {
            int least = followed(context, fingers);
            // a throw that does not follow has a TAIL of 1 and is never TOLD, as TRIED is 2 or more
            if (least == 0 && !whole) {
                return false;
            }
            return chances.isRare(places(context), least, law.throwCount, times, whole);
        }

        int listTold(int man, int odds) {
            int times = triedBy(man) * odds;
            int size = 0;
            for (int k = 0; k <= MOST_K; k++) {
                tally(man, k);
                for (int context = 0; context < contextCount(k); context++) {
                    size = listToldBehind(k, context, times, size);
                }
            }
            return size;
        }

        int codeAt(int i) {
            return isWithin(i, 0, MOST_TOLD - 1) ? codes[i] : NONE;
        }

        /** The k that is FORESEEN, whose CONTEXT then is the one that was tallied. */
        int foresee(int man, int odds) {
            int times = triedBy(man) * odds;
            for (int k = Math.min(MOST_K, lengths[man]); k >= 0; k--) {
                tally(man, k);
                for (int fingers = law.low; fingers <= law.high; fingers++) {
                    if (isRare(contextNow, fingers, times, false)) {
                        return k;
                    }
                }
            }
            return NONE;
        }

        int foreseenCount(int fingers) {
            return followed(contextNow, fingers);
        }

        long fold(long start) {
            long h = start;
            for (int man = 0; man < MEN; man++) {
                h = 31 * h + lengths[man];
                for (int i = 0; i < lengths[man]; i++) {
                    h = 31 * h + rows[man * LONGEST + i];
                }
            }
            return h;
        }

        private int contextCount(int k) {
            int all = 1;
            for (int i = 0; i < k && i < MOST_K; i++) {
                all *= law.throwCount;
            }
            return all;
        }

        private int listToldBehind(int k, int context, int times, int from) {
            int size = from;
            for (int fingers = law.low; fingers <= law.high; fingers++) {
                if (size < MOST_TOLD && isRare(context, fingers, times, false)) {
                    codes[size] = 10000 * k + 10 * context + fingers;
                    size++;
                }
            }
            return size;
        }
    }

    /**
     * AN ANSWER in whole numbers: W(i) is means[i] by weights, G is mixMean by (Z weights), what THE MIX
     * brings against WAY j is earned[j] by Z, and t is top by (THOUSAND low). Of all RULES that can be,
     * Z has 21 bits at most; so has low 25, top 36, gain 35, and a product of two at most 61.
     */
    private static final class Reply {
        static final long THOUSAND = 1000;

        private final Rule law;
        private final Game game;
        private final long[] weight = new long[Rule.MOST_WAYS];
        private final long[] means = new long[Rule.MOST_WAYS];
        private final long[] earned = new long[Rule.MOST_WAYS];
        private final Big one = new Big();
        private final Big two = new Big();
        private final Big mine = new Big();
        private final Big other = new Big();
        private long weights;
        private long mixMean;
        private int best = NONE;
        private long gain;
        private long newTop;
        private long newLow = 1;
        long top;
        long low = 1;

        Reply(Rule law, Game game) {
            this.law = law;
            this.game = game;
        }

        /** The WAY of AN ANSWER to what men have just FORESEEN. */
        int seek(Men men, int e) {
            game.work();
            weigh(men);
            best = NONE;
            for (int i = 0; i < law.wayCount; i++) {
                long newGain = means[i] * game.z - mixMean;
                if (newGain > 0) {
                    stretch(i, e);
                    keepIfBetter(i, newGain);
                }
            }
            return best;
        }

        /** G and t times (W less G). */
        void putMean(Fraction fraction) {
            becomeProduct(mine, Math.abs(mixMean), THOUSAND * low);
            becomeProduct(other, top, gain);
            int side = 1;
            if (mixMean >= 0) {
                mine.add(other);
            } else if (mine.against(other) > 0) {
                mine.take(other);
                side = -1;
            } else {
                other.take(mine);
                mine.copy(other);
            }
            becomeProduct(other, THOUSAND * low, game.z * weights);
            fraction.reduce(side, mine, other);
        }

        /** The least over WAYS j of what it brings against them. */
        void putWorst(Fraction fraction) {
            long least = 0;
            for (int j = 0; j < law.wayCount; j++) {
                long rise = law.payOf(Math.max(0, best), j) * game.z - earned[j];
                long brought = earned[j] * THOUSAND * low + top * rise;
                least = j == 0 ? brought : Math.min(least, brought);
            }
            fraction.become(least, THOUSAND * low * game.z);
        }

        private void weigh(Men men) {
            int ways = law.wayCount;
            weights = 0;
            for (int j = 0; j < ways; j++) {
                weight[j] = men.foreseenCount(law.throwOf(j));
                weights += weight[j];
                earned[j] = game.earnedAgainst(0, j);
            }
            mixMean = 0;
            for (int i = 0; i < ways; i++) {
                means[i] = 0;
                for (int j = 0; j < ways; j++) {
                    means[i] += weight[j] * law.payOf(i, j);
                }
                mixMean += game.share(0, i) * means[i];
            }
        }

        /** The greatest t for WAY i: what a WAY j falls by times t is no more than what is spare there. */
        private void stretch(int i, int e) {
            newTop = THOUSAND;
            newLow = 1;
            for (int j = 0; j < law.wayCount; j++) {
                long fall = earned[j] - law.payOf(i, j) * game.z;
                long spare = THOUSAND * (earned[j] - game.worth()) + e * game.z;
                if (fall > 0 && spare * newLow < newTop * fall) {
                    newTop = spare;
                    newLow = fall;
                }
            }
        }

        private void keepIfBetter(int i, long newGain) {
            becomeProduct(mine, newTop * low, newGain);
            becomeProduct(other, top * newLow, gain);
            if (best == NONE || mine.against(other) > 0) {
                best = i;
                gain = newGain;
                top = newTop;
                low = newLow;
            }
        }

        private void becomeProduct(Big big, long a, long b) {
            one.become(a);
            two.become(b);
            big.becomeProduct(one, two);
        }
    }

    /** A SLATE. What both had is a pair x, y below SIDE: 20 and a score of 8 is the most there can be. */
    private static final class Slate {
        static final int MOST_POINTS = 21, MOST_MARK = 60;
        private static final int MOST_ROUNDS = 40, SIDE = 29, ALL = (1 << SIDE) - 1;
        private static final long MOST_FILLS = 1000000000000000000L;

        private final Rule law;
        private final int[] noted = new int[2 * MOST_ROUNDS];
        private final boolean[] disputed = new boolean[2 * MOST_ROUNDS];
        /** Behind each ROUND, for each x: the bits of the y that may be. */
        private final int[] reach = new int[MOST_ROUNDS * SIDE];
        private long[] fillsNow = new long[SIDE * SIDE];
        private long[] fillsBehind = new long[SIDE * SIDE];
        /** How many ROUNDS fillsNow has gone through. */
        private int filled = NONE;
        int goal = 1;
        int rounds;

        Slate(Rule law) {
            this.law = law;
        }

        void begin(int p) {
            goal = p;
            rounds = 0;
            startAgain();
        }

        /** What was filled is of no use any more. */
        void startAgain() {
            filled = NONE;
        }

        int add(int a, int b) {
            if (rounds >= MOST_ROUNDS) {
                return FULL;
            }
            noted[2 * rounds] = a;
            noted[2 * rounds + 1] = b;
            disputed[2 * rounds] = false;
            disputed[2 * rounds + 1] = false;
            rounds++;
            return rounds;
        }

        boolean hasMark(int i, int player) {
            return isWithin(i, 0, rounds - 1) && isEither(player);
        }

        int setDisputed(int i, int player, boolean is) {
            if (noted[2 * i + player] == NONE) {
                return NO;
            }
            disputed[2 * i + player] = is;
            startAgain();
            return 1;
        }

        long countFills() {
            if (filled == NONE) {
                Arrays.fill(fillsNow, 0);
                fillsNow[0] = 1;
                filled = 0;
            }
            for (; filled < rounds; filled++) {
                fillRound(filled);
            }
            long all = 0;
            for (int i = 0; i < SIDE * SIDE; i++) {
                all = Math.min(all + fillsNow[i], MOST_FILLS);
            }
            return all;
        }

        /** The first ROUND up to which there are no FILLS, else NONE; reach then is as seen from the start. */
        int reachAll() {
            for (int i = 0; i < rounds; i++) {
                if (!reachRound(i)) {
                    return i;
                }
            }
            return NONE;
        }

        int findHad(int i, int player, boolean most) {
            if (reachAll() != NONE) {
                return NONE;
            }
            for (int r = rounds - 2; r >= i && r >= 0; r--) {
                keepWithFollowers(r);
            }
            int may = 0;
            for (int x = 0; x < SIDE; x++) {
                int ys = reach[i * SIDE + x];
                may |= player == 1 ? ys : ys != 0 ? 1 << x : 0;
            }
            return most ? highestBit(may) : lowestBit(may);
        }

        long fold(long start) {
            long h = start;
            for (int i = 0; i < rounds; i++) {
                h = 31 * h + noted[2 * i];
                h = 31 * h + noted[2 * i + 1];
                h = 31 * h + (disputed[2 * i] ? 1 : 0);
                h = 31 * h + (disputed[2 * i + 1] ? 1 : 0);
            }
            return h;
        }

        private int leastScore() {
            return law.kind == SUM ? Math.max(1, 2 * law.low) : 1;
        }

        private int mostScore() {
            return law.kind == SUM ? 2 * law.high : 1;
        }

        /** The bits of the numbers that a mark tells. */
        private int toldBy(int i, int player) {
            int mark = noted[2 * i + player];
            if (mark == NONE) {
                return ALL;
            }
            int bits = mark < SIDE ? 1 << mark : 0;
            return (disputed[2 * i + player] ? bits | bits << 1 : bits) & ALL;
        }

        private void fillRound(int i) {
            int xs = toldBy(i, 0);
            int ys = toldBy(i, 1);
            Arrays.fill(fillsBehind, 0);
            for (int x = 0; x < goal; x++) {
                for (int y = 0; y < goal; y++) {
                    if (fillsNow[x * SIDE + y] > 0) {
                        fillFrom(x, y, xs, ys);
                    }
                }
            }
            long[] spent = fillsNow;
            fillsNow = fillsBehind;
            fillsBehind = spent;
        }

        private void fillFrom(int x, int y, int xs, int ys) {
            int at = x * SIDE + y;
            long ways = fillsNow[at];
            boolean xStays = (xs >> x & 1) != 0;
            boolean yStays = (ys >> y & 1) != 0;
            if (xStays && yStays && law.kind != MULTIPLES) {
                addFills(at, ways);
            }
            int most = mostScore();
            for (int s = leastScore(); s <= most; s++) {
                if (xStays && (ys >> (y + s) & 1) != 0) {
                    addFills(at + s, ways);
                }
                if (yStays && (xs >> (x + s) & 1) != 0) {
                    addFills(at + s * SIDE, ways);
                }
            }
        }

        private void addFills(int at, long ways) {
            if (at >= 0 && at < SIDE * SIDE) {
                long all = fillsBehind[at] + ways;
                fillsBehind[at] = all > MOST_FILLS ? MOST_FILLS : all;
            }
        }

        /** The bits of the y that may be ahead of ROUND i with this x, so that it is played. */
        private int playedFrom(int i, int x) {
            int ys = i > 0 ? reach[(i - 1) * SIDE + x] : x == 0 ? 1 : 0;
            return x < goal ? ys & ((1 << goal) - 1) : 0;
        }

        private boolean reachRound(int i) {
            int row = i * SIDE;
            for (int x = 0; x < SIDE; x++) {
                reach[row + x] = 0;
            }
            for (int x = 0; x < goal; x++) {
                int ys = playedFrom(i, x);
                if (ys != 0) {
                    reachFrom(row + x, ys);
                }
            }
            int xs = toldBy(i, 0);
            int told = toldBy(i, 1);
            boolean some = false;
            for (int x = 0; x < SIDE; x++) {
                reach[row + x] &= (xs >> x & 1) != 0 ? told : 0;
                some |= reach[row + x] != 0;
            }
            return some;
        }

        private void reachFrom(int at, int ys) {
            if (law.kind != MULTIPLES) {
                reach[at] |= ys;
            }
            int most = mostScore();
            for (int s = leastScore(); s <= most; s++) {
                reach[at] |= ys << s;
                reach[at + s] |= ys;
            }
        }

        /** Of what may be behind ROUND i, only what something behind ROUND i + 1 follows from is kept. */
        private void keepWithFollowers(int i) {
            for (int x = 0; x < SIDE; x++) {
                int ys = playedFrom(i + 1, x);
                reach[i * SIDE + x] = ys == 0 ? 0 : ys & followedFrom((i + 1) * SIDE + x);
            }
        }

        private int followedFrom(int at) {
            int ys = law.kind != MULTIPLES ? reach[at] : 0;
            int most = mostScore();
            for (int s = leastScore(); s <= most; s++) {
                ys |= reach[at] >> s | reach[at + s];
            }
            return ys;
        }

        private static int lowestBit(int bits) {
            for (int i = 0; i < SIDE; i++) {
                if ((bits >> i & 1) != 0) {
                    return i;
                }
            }
            return NONE;
        }

        private static int highestBit(int bits) {
            for (int i = SIDE - 1; i >= 0; i--) {
                if ((bits >> i & 1) != 0) {
                    return i;
                }
            }
            return NONE;
        }
    }

    /** ROUNDS that were HEARD. Ways to choose from 60 at most fit in a long. */
    private static final class Beats {
        static final int MOST_BEAT = 1000;
        private static final int MOST_HEARD = 60, FIRST_SLACK = 100;

        private final int[] at = new int[2 * MOST_HEARD];
        private final int[] scorer = new int[MOST_HEARD];
        int size;
        int slack = FIRST_SLACK;
        long above;
        long below = 1;

        int add(int x, int y, int scored) {
            if (size >= MOST_HEARD) {
                return FULL;
            }
            at[2 * size] = x;
            at[2 * size + 1] = y;
            scorer[size] = scored;
            size++;
            return size;
        }

        int clear() {
            int was = size;
            size = 0;
            return was;
        }

        /** Of a PLAYER: 0 N, 1 K, 2 W, 3 w. */
        int tally(int player, int what) {
            int all = 0;
            for (int i = 0; i < size; i++) {
                boolean wasLate = at[2 * i + player] - at[2 * i + 1 - player] > slack;
                boolean lateFits = wasLate || what == 0 || what == 2;
                boolean scoreFits = scorer[i] == player || what == 0 || what == 1;
                all += scorer[i] != NONE && lateFits && scoreFits ? 1 : 0;
            }
            return all;
        }

        /** THE CHANCE of w or more is put in above, below. */
        void work(int player) {
            int n = tally(player, 0);
            int k = tally(player, 1);
            int scored = tally(player, 2);
            above = 0;
            for (int i = tally(player, 3); i <= k && i <= scored; i++) {
                above += choose(scored, i) * choose(n - scored, k - i);
            }
            below = Math.max(1, choose(n, k));
        }

        long fold(long start) {
            long h = start;
            for (int i = 0; i < size; i++) {
                h = 31 * h + at[2 * i];
                h = 31 * h + at[2 * i + 1];
                h = 31 * h + scorer[i];
            }
            return h;
        }

        private static long choose(int n, int k) {
            long ways = k > n ? 0 : 1;
            for (int i = 0; i < k && ways > 0; i++) {
                ways = ways * (n - i) / (i + 1);
            }
            return ways;
        }
    }

    /** A LEAGUE. */
    private static final class League {
        private static final int TEAMS = 6, MOST_LEFT = 9, MOST_GAMES = 100;

        final int[] points = new int[TEAMS];
        private final int[] after = new int[TEAMS];
        private final int[] one = new int[MOST_LEFT];
        private final int[] other = new int[MOST_LEFT];
        private final int[] trial = new int[MOST_LEFT];
        private final int[] results = new int[MOST_LEFT];
        private int resultCount;
        int games;
        int open;

        static boolean isTeam(int team) {
            return isWithin(team, 0, TEAMS - 1);
        }

        static boolean isGame(int a, int b) {
            return isTeam(a) && isTeam(b) && a != b;
        }

        static boolean arePoints(int x, int y) {
            return isWithin(x, 0, 100) && isWithin(y, 0, 100);
        }

        int play(int a, int b, int x, int y) {
            if (games >= MOST_GAMES) {
                return FULL;
            }
            games++;
            points[a] += 1 + Integer.compare(x, y);
            points[b] += 1 + Integer.compare(y, x);
            return 1;
        }

        int leave(int a, int b) {
            if (open >= MOST_LEFT) {
                return FULL;
            }
            one[open] = a;
            other[open] = b;
            open++;
            return open;
        }

        int playFirst(int x, int y) {
            if (open == 0) {
                return NO;
            }
            if (play(one[0], other[0], x, y) == FULL) {
                return FULL;
            }
            open--;
            for (int i = 0; i < open; i++) {
                one[i] = one[i + 1];
                other[i] = other[i + 1];
            }
            return open;
        }

        /** Whether a TEAM CAN be first; if so the first results by which it is are kept. */
        int seek(int team) {
            System.arraycopy(points, 0, after, 0, TEAMS);
            if (!isFirst(team, 0)) {
                return 0;
            }
            System.arraycopy(trial, 0, results, 0, open);
            resultCount = open;
            return 1;
        }

        int resultAt(int i) {
            return i >= 0 && i < resultCount ? results[i] : NONE;
        }

        long fold(long start) {
            long h = start;
            for (int team = 0; team < TEAMS; team++) {
                h = 31 * h + points[team];
            }
            return h;
        }

        /** Tries the results of the LEFT games from depth on, as deep as there are such games. */
        private boolean isFirst(int team, int depth) {
            if (isBeaten(team, depth)) {
                return false;
            }
            if (depth >= open || depth >= MOST_LEFT) {
                return true;
            }
            int a = one[depth];
            int b = other[depth];
            for (int result = 0; result <= 2; result++) {
                trial[depth] = result;
                after[a] += 2 - result;
                after[b] += result;
                boolean is = isFirst(team, depth + 1);
                after[a] -= 2 - result;
                after[b] -= result;
                if (is) {
                    return true;
                }
            }
            return false;
        }

        /** Whether some TEAM has more than this one can get by winning all of its games from depth on. */
        private boolean isBeaten(int team, int depth) {
            int most = after[team];
            for (int i = depth; i < open; i++) {
                most += one[i] == team || other[i] == team ? 2 : 0;
            }
            for (int i = 0; i < TEAMS; i++) {
                if (after[i] > most) {
                    return true;
                }
            }
            return false;
        }
    }
}
