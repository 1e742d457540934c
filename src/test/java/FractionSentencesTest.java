import java.math.BigInteger;

/** Promises 9 to 14, sentence by sentence where they name an edge: THE FRACTION, matches. */
public final class FractionSentencesTest extends Sentences {
    private static final int BASE = 1073741824;

    /** THE TAIL of one throw after a row of 1s and one 2: of 2 it is all but one of 2 to so many. */
    private static void tailOfTwo(FlungFingers x, int ones) {
        x.forget(0);
        flingAll(x, 0, 1, ones);
        x.flung(0, 2);
        x.tail(0, 0, 0, 2);
    }

    private static void powerOfTwo(FlungFingers x, int throwsInAll) {
        x.forget(0);
        flingAll(x, 0, 1, throwsInAll);
        x.tail(0, 0, 0, 1);
    }

    private static void limbCounts() {
        sentence(9, "0 has none", x -> {
            due(x.limbs(0), 0);
            due(x.limbs(1), 1);
            x.value();
            due(x.limbs(0), 0);
            due(x.limbs(1), 1);
        });
        sentence(9, "the base itself has two limbs, one less has one", x -> {
            powerOfTwo(x, 29);
            due(x.limbs(1), 1);
            powerOfTwo(x, 30);
            due(x.limbs(0), 1);
            due(x.limbs(1), 2);
            tailOfTwo(x, 29);
            due(x.limbs(0), 1);
            due(x.limbs(1), 2);
            tailOfTwo(x, 30);
            due(x.limbs(0), 2);
            due(x.limbs(1), 2);
        });
        sentence(9, "two limbs and three", x -> {
            powerOfTwo(x, 59);
            due(x.limbs(1), 2);
            powerOfTwo(x, 60);
            due(x.limbs(1), 3);
        });
        sentence(9, "the longest: 5 to the 120th", x -> {
            x.rule(0, 0, 4, 2);
            flingAll(x, 0, 4, 120);
            due(x.tail(0, 0, 0, 4), 1);
            due(x.limbs(0), 1);
            due(x.limbs(1), (BigInteger.valueOf(5).pow(120).bitLength() + 29) / 30);
        });
        sentence(9, "a fraction that is short again after a long one", x -> {
            powerOfTwo(x, 100);
            due(x.limbs(1), 4);
            x.chance(1, 1);
            due(x.limbs(0), 1);
            due(x.limbs(1), 1);
            due(x.limb(1, 1), NONE);
        });
        sentence(9, "above (0), below (1); BAD", x -> refused(Sentences::rich, BAD,
            y -> y.limbs(-1), y -> y.limbs(2), y -> y.limbs(SMALL), y -> y.limbs(BIG)));
    }

    private static void limbsThemselves() {
        sentence(10, "digits to the base 1073741824, lowest first", x -> {
            powerOfTwo(x, 29);
            due(x.limb(1, 0), BASE / 2);
            powerOfTwo(x, 30);
            due(x.limb(1, 0), 0);
            due(x.limb(1, 1), 1);
            tailOfTwo(x, 29);
            due(x.limb(0, 0), BASE - 1);
            due(x.limb(0, 1), NONE);
            tailOfTwo(x, 30);
            due(x.limb(0, 0), BASE - 1);
            due(x.limb(0, 1), 1);
            due(x.limb(1, 0), 0);
            due(x.limb(1, 1), 2);
        });
        sentence(10, "sizes: of a number below 0 too", x -> {
            x.rule(0, 0, 4, 5);
            x.value();
            due(x.limb(0, 0), 3);
            due(x.limb(1, 0), 5);
        });
        sentence(10, "every limb of 5 to the 120th", x -> {
            x.rule(0, 0, 4, 2);
            flingAll(x, 0, 4, 120);
            x.tail(0, 0, 0, 4);
            due(read(x).below.compareTo(BigInteger.valueOf(5).pow(120)), 0);
            due(read(x).above.compareTo(BigInteger.ONE), 0);
        });
        sentence(10, "lowest terms: no common part is left", x -> {
            x.rule(1, 0, 1, 0);
            x.chance(12, 12);
            fraction(x, 1, 2);
            x.rule(0, 0, 2, 2);
            fling(x, 0, "000000000000111111111111222222222222");
            x.tail(0, 0, 0, 0);
            due(read(x).above.gcd(read(x).below).compareTo(BigInteger.ONE), 0);
            x.tail(0, 0, 0, 1);
            due(x.sign(), 1);
        });
        sentence(10, "lowest terms: below has a limb less by it", x -> {
            flingAll(x, 0, 1, 28);
            fling(x, 0, "22");
            // 1 and 30 and 435 of 2 to the 30th
            x.tail(0, 0, 0, 1);
            fraction(x, 233, 1 << 29);
            x.rule(0, 0, 2, 2);
            flingAll(x, 0, 1, 18);
            x.flung(0, 0);
            // 1 and 38 of 3 to the 19th
            x.tail(0, 0, 0, 1);
            fraction(x, 13, 387420489);
        });
        sentence(10, "NONE: not so many", x -> {
            due(x.limb(0, 0), NONE);
            due(x.limb(1, 0), 1);
            due(x.limb(1, 1), NONE);
            due(x.limb(0, BIG), NONE);
            due(x.limb(1, BIG), NONE);
            powerOfTwo(x, 30);
            due(x.limb(0, 1), NONE);
            due(x.limb(1, 2), NONE);
            due(x.limb(1, 16), NONE);
        });
        sentence(10, "BAD: part", x -> refused(Sentences::rich, BAD,
            y -> y.limb(-1, 0), y -> y.limb(2, 0), y -> y.limb(2, 99), y -> y.limb(SMALL, 0), y -> y.limb(BIG, 0)));
        sentence(10, "BAD: i below 0", x -> refused(Sentences::rich, BAD,
            y -> y.limb(0, -1), y -> y.limb(1, -1), y -> y.limb(0, SMALL)));
    }

    private static void signs() {
        sentence(11, "of 0, above it, below it", x -> {
            due(x.sign(), 0);
            x.mix(0, 0);
            due(x.sign(), 1);
            x.value();
            due(x.sign(), 0);
            x.rule(0, 0, 4, 5);
            x.value();
            due(x.sign(), -1);
            x.rule(0, 1, 2, 5);
            x.chance(1, 1);
            due(x.sign(), 0);
        });
    }

    /** Calls that are not said to put anything in THE FRACTION, each of them answered and none refused. */
    private static final Call[] QUIET = {
        y -> y.rule(0, 1, 2, 5), y -> y.way(8, 1), y -> y.pay(0, 8), y -> y.steps(), y -> y.limbs(0), y -> y.limb(1, 0), y -> y.sign(),
        y -> y.millionths(), y -> y.given(12), y -> y.flung(0, 2), y -> y.forget(0), y -> y.odds(1), y -> y.comes(0, 1, 0, 1),
        y -> y.tried(0), y -> y.told(0), y -> y.toldAt(0, 0), y -> y.foreseen(0), y -> y.foreseenAt(0, 1), y -> y.slate(7),
        y -> y.round(1, 1), y -> y.dispute(0, 0, false), y -> y.fills(), y -> y.had(0, 0, true), y -> y.wrong(), y -> y.heard(1, 2, 0),
        y -> y.beat(0), y -> y.lates(0, 3), y -> y.silence(), y -> y.played(0, 1, 1, 0), y -> y.left(0, 1), y -> y.next(1, 0),
        y -> y.has(0), y -> y.can(0), y -> y.how(0), y -> y.count(3), y -> y.digest()};

    private static boolean isRefusal(long answer) {
        return answer == BAD || answer == NO || answer == FULL || answer == FAR_BAD || answer == FAR_NO || answer == FAR_NONE;
    }

    private static void stays() {
        sentence(11, "THE FRACTION stays by each call that is not said to put something there", x -> {
            for (Call call : QUIET) {
                FlungFingers y = new FlungFingers();
                rich(y);
                Ratio was = read(y);
                holds(!isRefusal(call.on(y)));
                due(read(y).compareTo(was), 0);
            }
        });
    }

    private static void millionths() {
        sentence(12, "no more than: above 0 downwards", x -> {
            x.rule(0, 0, 2, 3);
            x.mix(0, 0);
            fraction(x, 1, 3);
            due(x.millionths(), 333333);
            x.rule(0, 1, 2, 2);
            tailOfTwo(x, 29);
            due(x.millionths(), 999999);
            powerOfTwo(x, 120);
            due(x.millionths(), 0);
            powerOfTwo(x, 19);
            due(x.millionths(), 1);
            powerOfTwo(x, 20);
            due(x.millionths(), 0);
        });
        sentence(12, "no more than: below 0 downwards too", x -> {
            x.rule(0, 0, 2, 3);
            x.value();
            fraction(x, -1, 3);
            due(x.millionths(), -333334);
        });
        sentence(12, "whole ones as they are", x -> {
            due(x.millionths(), 0);
            x.tail(0, 0, 0, 1);
            x.mix(0, 0);
            due(x.millionths(), 500000);
            x.rule(0, 0, 4, 5);
            x.value();
            due(x.millionths(), -600000);
            x.rule(0, 1, 2, 5);
            x.value();
            due(x.millionths(), -1000000);
            x.mix(0, 0);
            due(x.millionths(), 1000000);
        });
        sentence(12, "the greatest that a call puts there: far below 1000000000000", x -> {
            x.rule(2, 0, 4, 0);
            flingAll(x, 0, 4, 120);
            due(x.answers(0, 9000, 0), 1);
            fraction(x, 32, 5);
            due(x.millionths(), 6400000);
            due(x.answers(0, 9000, 1), -1);
            due(x.millionths() % 1000000, 0);
        });
        sentence(12, "it leaves THE FRACTION as it is", x -> {
            tailOfTwo(x, 30);
            Ratio was = read(x);
            due(x.millionths(), 999999);
            due(x.millionths(), 999999);
            due(read(x).compareTo(was), 0);
        });
    }

    private static void chances() {
        sentence(13, "1 .. 12 each", x -> {
            for (int other = 1; other <= 12; other++) {
                due(x.chance(1, other), 1);
                fraction(x, (1 << other) - 1, 1 << other);
                due(x.chance(other, 1), 1);
                fraction(x, 1, 1 << other);
                due(x.chance(12, other), 1);
                due(x.chance(other, 12), 1);
                due(x.chance(other, other), 1);
                fraction(x, 1, 2);
            }
        });
        sentence(13, "of MULTIPLES half of THE VALUE and 1: 0, if PLAYER 0 never scores", x -> {
            x.rule(0, 1, 2, 5);
            due(x.chance(1, 12), 1);
            fraction(x, 0, 1);
            due(x.chance(12, 1), 1);
            fraction(x, 0, 1);
            x.rule(0, 0, 4, 5);
            due(x.chance(1, 1), 1);
            fraction(x, 1, 5);
            due(x.chance(2, 1), 1);
            fraction(x, 1, 25);
            due(x.chance(1, 2), 1);
            fraction(x, 9, 25);
            due(x.chance(12, 1), 1);
            fraction(x, 1, 244140625);
        });
        sentence(13, "the longest match: by 5 to the 23rd", x -> {
            x.rule(0, 0, 4, 5);
            due(x.chance(12, 12), 1);
            Ratio q = Ratio.of(1, 5), all = Ratio.ZERO;
            long ways = 1;
            for (int i = 0; i <= 23; i++) {
                Ratio one = Ratio.of(ways);
                for (int k = 0; k < 23; k++) {
                    one = one.times(k < i ? q : Ratio.ONE.minus(q));
                }
                all = i >= 12 ? all.plus(one) : all;
                ways = ways * (23 - i) / (i + 1);
            }
            due(read(x).compareTo(all), 0);
        });
        sentence(13, "of ONE a half, also behind a RULE by which PLAYER 0 never scores", x -> {
            x.rule(0, 1, 2, 5);
            due(x.chance(1, 1), 1);
            fraction(x, 0, 1);
            x.rule(1, 1, 2, 5);
            due(x.chance(1, 1), 1);
            fraction(x, 1, 2);
        });
        sentence(13, "of ONE a half", x -> {
            x.rule(0, 0, 4, 5);
            due(x.chance(1, 1), 1);
            fraction(x, 1, 5);
            for (int f = 1; f <= 4; f++) {
                x.rule(1, 0, f, 5);
                due(x.chance(2, 1), 1);
                fraction(x, 1, 4);
            }
        });
        sentence(13, "BAD", x -> refused(Sentences::rich, BAD, y -> y.chance(0, 1), y -> y.chance(1, 0), y -> y.chance(13, 1),
            y -> y.chance(1, 13), y -> y.chance(-1, 1), y -> y.chance(1, SMALL), y -> y.chance(BIG, 1)));
        sentence(13, "NO: SUM", x -> refused(Sentences::richOfSum, NO,
            y -> y.chance(1, 1), y -> y.chance(12, 12), y -> y.chance(1, 12)));
        sentence(13, "BAD ahead of NO", x -> refused(Sentences::richOfSum, BAD,
            y -> y.chance(0, 1), y -> y.chance(1, 0), y -> y.chance(13, 1), y -> y.chance(1, 13)));
    }

    private static void given() {
        sentence(14, "0 if Q is a half", x -> {
            for (int p = 1; p <= 12; p++) {
                due(x.given(p), 0);
            }
            x.rule(1, 0, 4, 0);
            for (int p = 1; p <= 12; p++) {
                due(x.given(p), 0);
            }
        });
        sentence(14, "the least g, told below 0 if PLAYER 0 gets them", x -> {
            int[] thirds = {0, -1, -2, -2, -3, -3, -4, -4, -5, -5, -6, -6};
            x.rule(0, 0, 2, 3);
            for (int p = 1; p <= 12; p++) {
                due(x.given(p), thirds[p - 1]);
            }
            int[] quarters = {-2, -3, -4, -4, -5, -6, -6, -7, -8, -8};
            x.rule(0, 0, 3, 4);
            for (int p = 3; p <= 12; p++) {
                due(x.given(p), quarters[p - 3]);
            }
            int[] fifths = {-3, -4, -5, -6, -6, -7, -8, -9, -9};
            x.rule(0, 0, 4, 5);
            for (int p = 4; p <= 12; p++) {
                due(x.given(p), fifths[p - 4]);
            }
        });
        sentence(14, "p - 1, if none does (below 0 too, if PLAYER 0 gets them)", x -> {
            x.rule(0, 1, 2, 5);
            for (int p = 1; p <= 12; p++) {
                due(x.given(p), 1 - p);
            }
            x.rule(0, 0, 4, 5);
            for (int p = 1; p <= 3; p++) {
                due(x.given(p), 1 - p);
            }
            x.rule(0, 0, 3, 4);
            due(x.given(1), 0);
            due(x.given(2), -1);
        });
        sentence(14, "it leaves THE FRACTION", x -> {
            x.rule(0, 0, 4, 5);
            x.chance(2, 1);
            due(x.given(12), -9);
            fraction(x, 1, 25);
        });
        sentence(14, "BAD: -100", x -> refused(Sentences::rich, FAR_BAD,
            y -> y.given(0), y -> y.given(13), y -> y.given(-1), y -> y.given(SMALL), y -> y.given(BIG)));
        sentence(14, "NO: -200: SUM", x -> refused(Sentences::richOfSum, FAR_NO, y -> y.given(1), y -> y.given(12)));
        sentence(14, "-100 ahead of -200", x -> refused(Sentences::richOfSum, FAR_BAD, y -> y.given(0), y -> y.given(13)));
    }

    public static void main(String[] args) {
        limbCounts();
        limbsThemselves();
        signs();
        stays();
        millionths();
        chances();
        given();
        end();
    }
}
