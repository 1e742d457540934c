import java.util.function.LongSupplier;

/** Each promise of the document by its number: ordinary calls, the edges that it names, wrong calls. */
public final class PromisesTest {
    private static final int BIG = Integer.MAX_VALUE, SMALL = Integer.MIN_VALUE;
    private static final int NONE = FlungFingers.NONE, BAD = FlungFingers.BAD, NO = FlungFingers.NO, FULL = FlungFingers.FULL;
    private static int wrong, promise;

    private static void due(String call, long got, long want) {
        if (got != want) {
            wrong++;
            System.out.println("promise " + promise + ": " + call + " answered " + got + ", due is " + want);
        }
    }

    /** THE FRACTION, of one limb each at most. */
    private static void fraction(FlungFingers x, String call, int above, int below) {
        due(call + " above", Math.max(0, x.limb(0, 0)), Math.abs(above));
        due(call + " below", x.limb(1, 0), below);
        due(call + " limbs above", x.limbs(0), above == 0 ? 0 : 1);
        due(call + " limbs below", x.limbs(1), 1);
        due(call + " sign", x.sign(), Integer.signum(above));
    }

    /** A refused call answers so and changes nothing. */
    private static void refused(FlungFingers x, String call, LongSupplier it, long want) {
        long was = x.digest();
        String fractionWas = x.limb(0, 0) + " " + x.limb(1, 0) + " " + x.sign();
        due(call, it.getAsLong(), want);
        due(call + " changed nothing", x.digest(), was);
        due(call + " left the fraction", (x.limb(0, 0) + " " + x.limb(1, 0) + " " + x.sign()).equals(fractionWas) ? 1 : 0, 1);
    }

    private static void fling(FlungFingers x, int man, String fingers) {
        for (char c : fingers.toCharArray()) {
            x.flung(man, c - '0');
        }
    }

    private static void newObject() {
        promise = 1;
        FlungFingers x = new FlungFingers();
        int[] counts = {0, 1, 2, 2, 0, 0, 0, 0, 20, 100, 1, 2};
        for (int what = 0; what < 12; what++) {
            due("count(" + what + ")", x.count(what), counts[what]);
        }
        fraction(x, "new", 0, 1);
        due("millionths()", x.millionths(), 0);
        due("how(0)", x.how(0), NONE);
        due("fills()", x.fills(), 1);
        for (int i = 0; i < 4; i++) {
            due("forget", x.forget(i), 0);
        }
    }

    private static void rules() {
        promise = 2;
        FlungFingers x = new FlungFingers();
        for (int kind = 0; kind <= 2; kind++) {
            for (int l = 0; l <= 1; l++) {
                for (int f = l + 1; f <= 4; f++) {
                    int n = f - l + 1;
                    due("rule", x.rule(kind, l, f, 5), kind == 0 ? n : n * n);
                    due("m", x.count(11), kind == 0 ? 5 : 0);
                }
                int low = l;
                int which = kind;
                refused(x, "rule f low", () -> x.rule(which, low, low, 2), BAD);
                refused(x, "rule f high", () -> x.rule(which, low, 5, 2), BAD);
            }
        }
        refused(x, "rule kind", () -> x.rule(3, 0, 1, 2), BAD);
        refused(x, "rule kind", () -> x.rule(-1, 0, 1, 2), BAD);
        refused(x, "rule l", () -> x.rule(0, -1, 1, 2), BAD);
        refused(x, "rule l", () -> x.rule(0, 2, 3, 2), BAD);
        refused(x, "rule l", () -> x.rule(0, BIG, 3, 2), BAD);
        refused(x, "rule m", () -> x.rule(0, 0, 1, 1), BAD);
        refused(x, "rule m", () -> x.rule(0, 0, 1, 6), BAD);
        due("m is not looked at by ONE", x.rule(1, 0, 1, SMALL), 4);
        x.slate(5);
        x.round(1, NONE);
        x.dispute(0, 0, true);
        x.flung(2, 1);
        x.heard(1, 2, 1);
        x.value();
        due("rule", x.rule(1, 0, 1, 0), 4);
        due("ROWS go, with the same RULE, too", x.forget(2), 0);
        due("marks stay", x.count(4), 1);
        due("marks stay DISPUTED", x.had(0, 0, true), 1);
        due("HEARD stay", x.count(5), 1);
    }

    private static void ways() {
        promise = 3;
        FlungFingers x = new FlungFingers();
        due("way", x.way(0, 0), 1);
        due("way", x.way(1, 0), 2);
        due("call of MULTIPLES", x.way(1, 1), NONE);
        x.rule(2, 1, 3, 0);
        int i = 0;
        for (int t = 1; t <= 3; t++) {
            for (int call = t + 1; call <= t + 3; call++, i++) {
                due("throw of " + i, x.way(i, 0), t);
                due("call of " + i, x.way(i, 1), call);
            }
        }
        refused(x, "way", () -> x.way(9, 0), -100);
        refused(x, "way", () -> x.way(-1, 0), -100);
        refused(x, "way", () -> x.way(0, 2), -100);
        refused(x, "way", () -> x.way(0, -1), -100);
        refused(x, "way", () -> x.way(BIG, BIG), -100);
    }

    private static void pays() {
        promise = 4;
        FlungFingers x = new FlungFingers();
        x.rule(0, 0, 4, 3);
        for (int i = 0; i < 5; i++) {
            for (int j = 0; j < 5; j++) {
                due("pay(" + i + ", " + j + ")", x.pay(i, j), (i + j) % 3 == 0 ? 1 : -1);
            }
        }
        x.rule(2, 0, 2, 0);
        due("both right", x.pay(1, 3), 0);
        due("neither right", x.pay(0, 4), 0);
        due("PLAYER 0 alone, sum 1", x.pay(1, 5), 1);
        due("PLAYER 1 alone, sum 1", x.pay(0, 3), -1);
        due("PLAYER 0 alone, sum 2", x.pay(2, 8), 2);
        due("PLAYER 0 alone, sum 4", x.pay(8, 7), 4);
        due("PLAYER 1 alone, sum 4", x.pay(7, 8), -4);
        due("sum 0", x.pay(0, 1), 0);
        x.rule(1, 0, 2, 0);
        due("ONE", x.pay(8, 7), 1);
        due("ONE of sum 0", x.pay(1, 0), -1);
        refused(x, "pay", () -> x.pay(9, 0), -100);
        refused(x, "pay", () -> x.pay(0, 9), -100);
        refused(x, "pay", () -> x.pay(-1, 0), -100);
        refused(x, "pay", () -> x.pay(0, SMALL), -100);
    }

    /** Of every RULE: neither can do better against THE MIX of the other, and MIXES are whole. */
    private static void games() {
        FlungFingers x = new FlungFingers();
        for (int kind = 0; kind <= 2; kind++) {
            for (int l = 0; l <= 1; l++) {
                for (int f = l + 1; f <= 4; f++) {
                    for (int m = 2; m <= (kind == 0 ? 5 : 2); m++) {
                        x.rule(kind, l, f, m);
                        game(x);
                    }
                }
            }
        }
    }

    private static void game(FlungFingers x) {
        promise = 5;
        int sign = x.value();
        Ratio value = read(x);
        due("value's sign", sign, value.sign());
        due("fair unless MULTIPLES", x.count(0) == 0 || sign == 0 ? 1 : 0, 1);
        for (int player = 0; player <= 1; player++) {
            Ratio all = Ratio.ZERO;
            for (int i = 0; i < x.count(3); i++) {
                promise = 6;
                int above = x.mix(player, i);
                due("mix's answer", above, read(x).sign());
                due("no part below 0", read(x).sign() >= 0 ? 1 : 0, 1);
                all = all.plus(read(x));
                promise = 7;
                int brought = x.brings(player, i);
                due("brings' sign", brought, read(x).sign());
                int side = read(x).compareTo(value);
                due("it holds THE VALUE", (player == 0 ? side >= 0 : side <= 0) ? 1 : 0, 1);
            }
            promise = 6;
            due("parts are one together", all.compareTo(Ratio.ONE), 0);
        }
    }

    private static Ratio read(FlungFingers x) {
        java.math.BigInteger[] parts = new java.math.BigInteger[2];
        for (int part = 0; part < 2; part++) {
            parts[part] = java.math.BigInteger.ZERO;
            for (int i = x.limbs(part) - 1; i >= 0; i--) {
                parts[part] = parts[part].shiftLeft(30).add(java.math.BigInteger.valueOf(x.limb(part, i)));
            }
        }
        return new Ratio(x.sign() < 0 ? parts[0].negate() : parts[0], parts[1]);
    }

    private static void gameEdges() {
        FlungFingers x = new FlungFingers();
        promise = 5;
        due("value", x.value(), 0);
        x.rule(0, 0, 2, 3);
        due("value", x.value(), -1);
        fraction(x, "value", -1, 3);
        x.rule(0, 1, 2, 5);
        due("never a multiple", x.value(), -1);
        fraction(x, "value", -1, 1);
        promise = 6;
        x.rule(1, 1, 2, 0);
        int[] halves = {0, 1, 1, 0};
        for (int i = 0; i < 4; i++) {
            due("mix", x.mix(1, i), halves[i]);
            fraction(x, "mix", halves[i], halves[i] + 1);
        }
        refused(x, "mix", () -> x.mix(2, 0), BAD);
        refused(x, "mix", () -> x.mix(-1, 0), BAD);
        refused(x, "mix", () -> x.mix(0, 4), BAD);
        refused(x, "mix", () -> x.mix(0, -1), BAD);
        promise = 7;
        due("brings", x.brings(0, 0), 0);
        due("brings", x.brings(1, 3), 0);
        refused(x, "brings", () -> x.brings(2, 0), -100);
        refused(x, "brings", () -> x.brings(-1, 0), -100);
        refused(x, "brings", () -> x.brings(0, 4), -100);
        refused(x, "brings", () -> x.brings(1, -1), -100);
        promise = 8;
        due("steps", x.steps(), 4);
        int[] steps = {4, 8, 15, 33};
        for (int f = 1; f <= 4; f++) {
            x.rule(2, 0, f, 0);
            due("steps of SUM 0 .. " + f, x.steps(), steps[f - 1]);
        }
        x.rule(0, 1, 2, 4);
        due("steps of MULTIPLES", x.steps(), 1);
    }

    private static void fractions() {
        FlungFingers x = new FlungFingers();
        x.rule(1, 0, 4, 0);
        fling(x, 0, "0123401234012340123401234012340123401234012340123401234012340");
        x.tail(0, 1, 0, 1);
        promise = 9;
        due("5 to the 12th", x.limbs(1), 1);
        x.tail(0, 0, 0, 0);
        due("5 to the 61st", x.limbs(1), 5);
        refused(x, "limbs", () -> x.limbs(2), BAD);
        refused(x, "limbs", () -> x.limbs(-1), BAD);
        promise = 10;
        due("limb", x.limb(1, 5), NONE);
        due("limb", x.limb(1, BIG), NONE);
        due("limb is above 0", x.limb(1, 4) > 0 ? 1 : 0, 1);
        refused(x, "limb", () -> x.limb(2, 0), BAD);
        refused(x, "limb", () -> x.limb(-1, 0), BAD);
        refused(x, "limb", () -> x.limb(0, -1), BAD);
        refused(x, "limb", () -> x.limb(1, SMALL), BAD);
        x.rule(0, 0, 4, 5);
        promise = 11;
        x.value();
        due("sign of -3/5", x.sign(), -1);
        promise = 12;
        due("millionths of -3/5", x.millionths(), -600000);
        x.rule(0, 0, 2, 3);
        x.value();
        due("millionths of -1/3", x.millionths(), -333334);
        x.mix(0, 0);
        promise = 11;
        due("sign of a part", x.sign(), 1);
        promise = 12;
        due("millionths of a third", x.millionths(), 333333);
        promise = 9;
        x.rule(1, 0, 1, 0);
        x.value();
        due("0 has no limb", x.limbs(0), 0);
        promise = 10;
        due("0 has no limb", x.limb(0, 0), NONE);
        promise = 11;
        due("sign of 0", x.sign(), 0);
    }

    private static void matches() {
        promise = 13;
        FlungFingers x = new FlungFingers();
        due("chance", x.chance(1, 1), 1);
        fraction(x, "chance", 1, 2);
        due("chance", x.chance(12, 1), 1);
        fraction(x, "chance", 1, 4096);
        due("chance", x.chance(1, 12), 1);
        fraction(x, "chance", 4095, 4096);
        x.rule(0, 0, 2, 3);
        due("chance", x.chance(2, 2), 1);
        fraction(x, "chance with Q a third", 7, 27);
        x.rule(0, 1, 2, 5);
        due("chance", x.chance(1, 12), 1);
        fraction(x, "chance with Q 0", 0, 1);
        x.rule(0, 0, 4, 5);
        due("chance", x.chance(12, 12), 1);
        due("5 to the 23rd has two limbs", x.limbs(1), 2);
        int[][] bad = {{0, 1}, {1, 0}, {13, 1}, {1, 13}, {-1, 5}, {BIG, BIG}};
        for (int[] b : bad) {
            refused(x, "chance", () -> x.chance(b[0], b[1]), BAD);
        }
        x.rule(2, 0, 1, 0);
        refused(x, "chance", () -> x.chance(13, 1), BAD);
        refused(x, "chance of SUM", () -> x.chance(1, 1), NO);
        promise = 14;
        refused(x, "given", () -> x.given(0), -100);
        refused(x, "given", () -> x.given(13), -100);
        refused(x, "given of SUM", () -> x.given(1), -200);
        x.rule(1, 0, 1, 0);
        due("given of ONE", x.given(12), 0);
        x.rule(0, 0, 2, 3);
        x.value();
        int[] thirds = {0, -1, -2, -2, -3};
        for (int p = 1; p <= 5; p++) {
            int g = p;
            refused(x, "given(" + p + ")", () -> x.given(g), thirds[p - 1]);
        }
        x.rule(0, 1, 2, 5);
        due("none does", x.given(12), -11);
        due("none does", x.given(1), 0);
    }

    private static void rows() {
        promise = 15;
        FlungFingers x = new FlungFingers();
        for (int i = 1; i <= 120; i++) {
            due("flung", x.flung(3, 1 + i % 2), i);
        }
        refused(x, "flung", () -> x.flung(3, 1), FULL);
        refused(x, "BAD is ahead of FULL", () -> x.flung(3, 3), BAD);
        refused(x, "flung", () -> x.flung(3, 0), BAD);
        refused(x, "flung", () -> x.flung(4, 1), BAD);
        refused(x, "flung", () -> x.flung(-1, 1), BAD);
        due("another man", x.flung(0, 2), 1);
        promise = 16;
        due("forget", x.forget(3), 120);
        due("forget", x.forget(3), 0);
        due("forget", x.forget(0), 1);
        refused(x, "forget", () -> x.forget(4), BAD);
        refused(x, "forget", () -> x.forget(-1), BAD);
        promise = 17;
        due("odds", x.odds(100000), 20);
        due("odds", x.odds(1), 100000);
        refused(x, "odds", () -> x.odds(0), BAD);
        refused(x, "odds", () -> x.odds(100001), BAD);
        due("odds", x.odds(20), 1);
    }

    private static void habits() {
        FlungFingers x = new FlungFingers();
        x.rule(0, 0, 2, 2);
        fling(x, 1, "0120120122");
        promise = 18;
        due("of none", x.comes(1, 0, 0, NONE), 10);
        due("of none", x.comes(1, 0, 0, 2), 4);
        due("of one", x.comes(1, 1, 2, NONE), 3);
        due("of one", x.comes(1, 1, 2, 0), 2);
        due("of two, the first highest", x.comes(1, 2, 1, 2), 3);
        due("of two", x.comes(1, 2, 3, NONE), 0);
        due("of three", x.comes(1, 3, 5, NONE), 3);
        due("of three", x.comes(1, 3, 5, 0), 2);
        due("of three", x.comes(1, 3, 17, NONE), 0);
        int[][] bad = {{4, 0, 0, 0}, {-1, 0, 0, 0}, {1, 4, 0, 0}, {1, -1, 0, 0}, {1, 0, 1, 0}, {1, 1, 3, 0}, {1, 2, 9, 0},
            {1, 3, 27, 0}, {1, 3, -1, 0}, {1, 0, 0, 3}, {1, 0, 0, -2}, {1, BIG, BIG, BIG}, {1, SMALL, 0, 0}};
        for (int[] b : bad) {
            refused(x, "comes", () -> x.comes(b[0], b[1], b[2], b[3]), BAD);
        }
        promise = 19;
        due("tried", x.tried(1), 3 * (1 + 3 + 3 + 3));
        due("tried", x.tried(0), 0);
        refused(x, "tried", () -> x.tried(4), BAD);
        refused(x, "tried", () -> x.tried(-1), BAD);
        promise = 20;
        due("tail", x.tail(1, 1, 0, 1), 0);
        fraction(x, "tail", 1, 27);
        due("tail", x.tail(1, 1, 2, 0), 0);
        fraction(x, "tail of 2 of 3", 7, 27);
        due("tail", x.tail(1, 1, 2, 1), 0);
        fraction(x, "tail of 0", 1, 1);
        for (int[] b : bad) {
            refused(x, "tail", () -> x.tail(b[0], b[1], b[2], b[3]), BAD);
        }
        refused(x, "tail of none", () -> x.tail(1, 0, 0, NONE), BAD);
        refused(x, "tail", () -> x.tail(1, 2, 3, 0), NO);
        refused(x, "tail", () -> x.tail(0, 0, 0, 0), NO);
        x.rule(0, 1, 2, 2);
        x.flung(0, 1);
        x.odds(1);
        due("a half of two tried, ODDS 1", x.tail(0, 0, 0, 1), 1);
        due("and the other", x.tail(0, 0, 0, 2), 0);
        x.odds(2);
        due("a half of two tried, ODDS 2", x.tail(0, 0, 0, 1), 0);
    }

    private static void tolds() {
        FlungFingers x = new FlungFingers();
        promise = 21;
        due("told", x.told(0), 0);
        refused(x, "told", () -> x.told(4), BAD);
        refused(x, "told", () -> x.told(-1), BAD);
        fling(x, 0, "1212121212121212121212121212121");
        due("1 by 16384 times 14 times 20", x.told(0), 6);
        int[] codes = {10002, 10011, 20011, 20022, 30022, 30051};
        promise = 22;
        for (int i = 0; i < codes.length; i++) {
            due("toldAt(0, " + i + ")", x.toldAt(0, i), codes[i]);
        }
        due("toldAt", x.toldAt(0, 6), NONE);
        due("toldAt", x.toldAt(0, BIG), NONE);
        due("toldAt", x.toldAt(1, 0), NONE);
        refused(x, "toldAt", () -> x.toldAt(0, -1), BAD);
        refused(x, "toldAt", () -> x.toldAt(4, 0), BAD);
        refused(x, "toldAt", () -> x.toldAt(-1, 0), BAD);
        promise = 23;
        due("foreseen", x.foreseen(0), 3);
        due("foreseen", x.foreseen(1), NONE);
        refused(x, "foreseen", () -> x.foreseen(4), BAD);
        refused(x, "foreseen", () -> x.foreseen(-1), BAD);
        promise = 24;
        due("foreseenAt", x.foreseenAt(0, 2), 14);
        due("foreseenAt", x.foreseenAt(0, 1), 0);
        due("foreseenAt", x.foreseenAt(1, 1), NONE);
        refused(x, "foreseenAt", () -> x.foreseenAt(0, 3), BAD);
        refused(x, "foreseenAt", () -> x.foreseenAt(0, NONE), BAD);
        refused(x, "foreseenAt", () -> x.foreseenAt(4, 1), BAD);
        promise = 23;
        x.flung(0, 1);
        due("behind 11 nothing is TOLD, behind 1 it is", x.foreseen(0), 1);
        promise = 24;
        due("foreseenAt", x.foreseenAt(0, 2), 15);
        due("foreseenAt", x.foreseenAt(0, 1), 1);
        promise = 23;
        fling(x, 2, "11111111111111111112");
        due("behind 2 nothing is TOLD, all in all it is", x.foreseen(2), 0);
        promise = 24;
        due("foreseenAt", x.foreseenAt(2, 1), 19);
    }

    private static void replies() {
        FlungFingers x = new FlungFingers();
        fling(x, 0, "1111111111111111111111111");
        promise = 25;
        due("answer to one who throws 1", x.answer(0, 1000), 0);
        fraction(x, "all of it may be lost", 1, 1);
        due("answer", x.answer(0, 250), 0);
        fraction(x, "a quarter", 1, 4);
        due("answer", x.answer(0, 0), 0);
        fraction(x, "nothing", 0, 1);
        due("answer", x.answer(0, 2000), 0);
        refused(x, "answer", () -> x.answer(0, 2001), BAD);
        refused(x, "answer", () -> x.answer(0, -1), BAD);
        refused(x, "answer", () -> x.answer(4, 0), BAD);
        refused(x, "answer", () -> x.answer(-1, 0), BAD);
        refused(x, "answer", () -> x.answer(1, 0), NO);
        refused(x, "BAD is ahead of NO", () -> x.answer(1, 2001), BAD);
        promise = 26;
        due("answers", x.answers(0, 250, 0), 1);
        fraction(x, "on the mean", 1, 4);
        due("answers", x.answers(0, 250, 1), -1);
        fraction(x, "at worst", -1, 4);
        due("answers", x.answers(0, 0, 1), 0);
        refused(x, "answers", () -> x.answers(0, 2001, 0), -100);
        refused(x, "answers", () -> x.answers(0, 0, 2), -100);
        refused(x, "answers", () -> x.answers(0, 0, -1), -100);
        refused(x, "answers", () -> x.answers(4, 0, 0), -100);
        refused(x, "answers", () -> x.answers(1, 0, 0), -200);
        refused(x, "-100 is ahead of -200", () -> x.answers(1, 0, 2), -100);
        x.rule(0, 1, 2, 5);
        fling(x, 0, "1111111111111111111111111");
        x.chance(1, 1);
        promise = 25;
        refused(x, "every WAY brings the same", () -> x.answer(0, 0), NONE);
        promise = 26;
        refused(x, "every WAY brings the same", () -> x.answers(0, 0, 0), -300);
        x.rule(2, 0, 4, 0);
        fling(x, 0, "4444444444444444444444444");
        promise = 25;
        due("answer of SUM", x.answer(0, 9000), 24);
        fraction(x, "all of it", 1, 1);
        refused(x, "answer of SUM", () -> x.answer(0, 9001), BAD);
        promise = 26;
        due("answers of SUM", x.answers(0, 9000, 0), 1);
        fraction(x, "8 unless he calls 8", 32, 5);
    }

    private static void slates() {
        FlungFingers x = new FlungFingers();
        promise = 27;
        due("slate", x.slate(21), 1);
        due("p", x.count(10), 21);
        x.round(1, 0);
        due("slate", x.slate(1), 1);
        due("no ROUNDS", x.count(4), 0);
        refused(x, "slate", () -> x.slate(0), BAD);
        refused(x, "slate", () -> x.slate(22), BAD);
        promise = 28;
        refused(x, "round", () -> x.round(61, 0), BAD);
        refused(x, "round", () -> x.round(0, 61), BAD);
        refused(x, "round", () -> x.round(-2, 0), BAD);
        refused(x, "round", () -> x.round(0, -2), BAD);
        for (int i = 1; i <= 40; i++) {
            due("round", x.round(i % 2 == 0 ? 60 : NONE, i % 2 == 0 ? NONE : 0), i);
        }
        refused(x, "round", () -> x.round(0, 0), FULL);
        refused(x, "BAD is ahead of FULL", () -> x.round(61, 0), BAD);
        promise = 29;
        due("dispute", x.dispute(39, 0, true), 1);
        due("dispute", x.dispute(39, 0, true), 1);
        due("dispute", x.dispute(39, 0, false), 1);
        refused(x, "dispute", () -> x.dispute(39, 1, true), NO);
        refused(x, "dispute", () -> x.dispute(39, 1, false), NO);
        refused(x, "dispute", () -> x.dispute(40, 0, true), BAD);
        refused(x, "dispute", () -> x.dispute(-1, 0, true), BAD);
        refused(x, "dispute", () -> x.dispute(0, 2, true), BAD);
        refused(x, "dispute", () -> x.dispute(0, -1, true), BAD);
        x.slate(3);
        x.round(0, 0);
        due("neither has one", x.fills(), 0);
        x.dispute(0, 0, true);
        due("one has one", x.fills(), 1);
        x.dispute(0, 0, false);
        due("no more", x.fills(), 0);
        x.dispute(0, 1, true);
        x.slate(3);
        x.round(0, 0);
        due("a new SLATE has no DISPUTED marks", x.fills(), 0);
    }

    private static void filled() {
        FlungFingers x = new FlungFingers();
        promise = 30;
        x.slate(2);
        x.round(NONE, NONE);
        due("fills", x.fills(), 2);
        x.round(NONE, NONE);
        due("fills", x.fills(), 4);
        x.round(NONE, NONE);
        due("two go on", x.fills(), 4);
        x.round(NONE, NONE);
        due("none goes on", x.fills(), 0);
        x.rule(1, 0, 1, 0);
        due("of ONE", x.fills(), 39);
        x.rule(2, 0, 4, 0);
        x.slate(21);
        x.round(NONE, NONE);
        due("of SUM: none or 1 .. 8 of both", x.fills(), 17);
        x.rule(2, 1, 4, 0);
        due("of SUM: none or 2 .. 8 of both", x.fills(), 15);
        for (int i = 1; i < 40; i++) {
            x.round(NONE, NONE);
        }
        due("at most", x.fills(), 1000000000000000000L);
        promise = 31;
        due("had", x.had(39, 0, true), 28);
        due("had", x.had(38, 0, true), 20);
        due("had", x.had(0, 1, true), 8);
        due("had", x.had(39, 1, false), 0);
        x.slate(3);
        x.rule(0, 0, 1, 2);
        x.round(NONE, NONE);
        x.round(NONE, NONE);
        x.round(NONE, NONE);
        x.round(3, NONE);
        due("had", x.had(0, 0, false), 0);
        due("had", x.had(2, 0, true), 2);
        due("had", x.had(2, 0, false), 2);
        due("had", x.had(2, 1, true), 1);
        due("had", x.had(3, 1, false), 1);
        refused(x, "had", () -> x.had(4, 0, true), BAD);
        refused(x, "had", () -> x.had(-1, 0, true), BAD);
        refused(x, "had", () -> x.had(0, 2, true), BAD);
        refused(x, "had", () -> x.had(0, -1, true), BAD);
        promise = 32;
        due("wrong", x.wrong(), NONE);
        x.round(NONE, NONE);
        due("after the end", x.wrong(), 4);
        x.round(NONE, NONE);
        due("the first", x.wrong(), 4);
        promise = 31;
        due("no FILLS", x.had(0, 0, false), NONE);
        promise = 32;
        x.slate(21);
        due("no ROUNDS", x.wrong(), NONE);
        x.round(60, 60);
        due("at once", x.wrong(), 0);
    }

    private static void beats() {
        FlungFingers x = new FlungFingers();
        promise = 33;
        for (int i = 1; i <= 60; i++) {
            due("heard", x.heard(i <= 30 ? 1000 : 0, i <= 30 ? 0 : 1000, i <= 30 ? 0 : 1), i);
        }
        refused(x, "heard", () -> x.heard(0, 0, NONE), FULL);
        refused(x, "BAD is ahead of FULL", () -> x.heard(0, 0, 2), BAD);
        int[][] bad = {{1001, 0, 0}, {0, 1001, 0}, {-1, 0, 0}, {0, -1, 0}, {0, 0, 2}, {0, 0, -2}};
        for (int[] b : bad) {
            refused(x, "heard", () -> x.heard(b[0], b[1], b[2]), BAD);
        }
        promise = 34;
        due("beat", x.beat(1000), 100);
        due("above by no more than it", x.lates(0, 1), 0);
        due("beat", x.beat(999), 1000);
        due("above by more than it", x.lates(0, 1), 30);
        due("beat", x.beat(0), 999);
        refused(x, "beat", () -> x.beat(-1), BAD);
        refused(x, "beat", () -> x.beat(1001), BAD);
        promise = 35;
        for (int player = 0; player <= 1; player++) {
            int[] want = {60, 30, 30, 30};
            for (int what = 0; what <= 3; what++) {
                due("lates", x.lates(player, what), want[what]);
            }
        }
        refused(x, "lates", () -> x.lates(2, 0), BAD);
        refused(x, "lates", () -> x.lates(-1, 0), BAD);
        refused(x, "lates", () -> x.lates(0, 4), BAD);
        refused(x, "lates", () -> x.lates(0, -1), BAD);
        promise = 36;
        x.odds(100000);
        due("late", x.late(0), 1);
        Ratio ways = Ratio.of(118264581564861424L);
        due("1 by the ways to choose 30 of 60", read(x).times(ways).compareTo(Ratio.ONE), 0);
        refused(x, "late", () -> x.late(2), BAD);
        refused(x, "late", () -> x.late(-1), BAD);
        promise = 37;
        due("silence", x.silence(), 60);
        due("silence", x.silence(), 0);
        due("HEARD", x.count(5), 0);
        promise = 36;
        due("nothing HEARD", x.late(1), 0);
        fraction(x, "nothing HEARD", 1, 1);
        x.odds(1);
        due("1 times 1 is no more than 1", x.late(1), 1);
        x.heard(10, 0, 0);
        x.heard(10, 0, 0);
        x.heard(0, 0, 1);
        x.heard(0, 10, NONE);
        x.odds(3);
        due("late", x.late(0), 1);
        fraction(x, "both of both among 2 of 3", 1, 3);
        x.odds(4);
        due("late", x.late(0), 0);
        promise = 35;
        due("N without the one that brought nothing", x.lates(1, 0), 3);
        due("K likewise", x.lates(1, 1), 0);
        due("W", x.lates(1, 2), 1);
        due("w", x.lates(1, 3), 0);
    }

    private static void leagues() {
        FlungFingers x = new FlungFingers();
        promise = 38;
        due("played", x.played(0, 5, 100, 0), 1);
        due("played", x.played(0, 5, 7, 7), 1);
        due("played", x.played(0, 5, 0, 1), 1);
        int[][] bad = {{6, 0, 0, 0}, {0, 6, 0, 0}, {-1, 0, 0, 0}, {0, -1, 0, 0}, {2, 2, 0, 0}, {0, 1, 101, 0}, {0, 1, 0, 101},
            {0, 1, -1, 0}, {0, 1, 0, -1}};
        for (int[] b : bad) {
            refused(x, "played", () -> x.played(b[0], b[1], b[2], b[3]), BAD);
        }
        promise = 41;
        due("has", x.has(0), 3);
        due("has", x.has(5), 3);
        due("has", x.has(1), 0);
        refused(x, "has", () -> x.has(6), BAD);
        refused(x, "has", () -> x.has(-1), BAD);
        promise = 39;
        refused(x, "left", () -> x.left(6, 0), BAD);
        refused(x, "left", () -> x.left(0, -1), BAD);
        refused(x, "left", () -> x.left(3, 3), BAD);
        for (int i = 1; i <= 9; i++) {
            due("left", x.left(i % 2, 2 + i % 3), i);
        }
        refused(x, "left", () -> x.left(0, 1), FULL);
        refused(x, "BAD is ahead of FULL", () -> x.left(0, 0), BAD);
        promise = 40;
        due("the first, 1 and 3", x.next(1, 0), 8);
        due("has", x.has(1), 2);
        due("the second, 0 and 4", x.next(5, 5), 7);
        due("has", x.has(4), 1);
        refused(x, "next", () -> x.next(101, 0), BAD);
        refused(x, "next", () -> x.next(0, -1), BAD);
        promise = 38;
        for (int i = 5; i < 100; i++) {
            due("played", x.played(2, 3, 1, 1), 1);
        }
        refused(x, "played", () -> x.played(0, 1, 0, 0), FULL);
        promise = 40;
        refused(x, "next", () -> x.next(0, 0), FULL);
        refused(x, "BAD is ahead of FULL", () -> x.next(0, 101), BAD);
        FlungFingers y = new FlungFingers();
        refused(y, "next", () -> y.next(0, 0), NO);
        refused(y, "BAD is ahead of NO", () -> y.next(-1, 0), BAD);
    }

    private static void firsts() {
        FlungFingers x = new FlungFingers();
        promise = 42;
        due("all alike", x.can(3), 1);
        refused(x, "can", () -> x.can(6), BAD);
        refused(x, "can", () -> x.can(-1), BAD);
        promise = 43;
        due("how without games", x.how(0), NONE);
        x.played(0, 1, 1, 0);
        x.played(0, 2, 1, 0);
        promise = 42;
        due("2 behind 4", x.can(1), 0);
        x.left(0, 1);
        x.left(2, 1);
        x.left(0, 3);
        due("can", x.can(1), 1);
        promise = 43;
        int[] how = {2, 2, 2};
        for (int i = 0; i < 3; i++) {
            due("how(" + i + ")", x.how(i), how[i]);
        }
        due("how", x.how(3), NONE);
        due("how", x.how(-1), NONE);
        promise = 42;
        due("2 and 3 can't", x.can(3), 0);
        promise = 43;
        due("of the latest that told 1", x.how(1), 2);
        x.next(1, 0);
        due("played since", x.how(2), 2);
        promise = 42;
        due("0 can", x.can(0), 1);
        promise = 43;
        due("the first results", x.how(0), 0);
        due("the first results", x.how(1), 0);
        due("of two games", x.how(2), NONE);
        FlungFingers y = new FlungFingers();
        y.played(0, 1, 1, 0);
        y.left(0, 1);
        y.left(1, 0);
        y.left(2, 3);
        due("can", y.can(1), 1);
        due("the second wins", y.how(0), 1);
        due("the first wins", y.how(1), 0);
        due("the first wins", y.how(2), 0);
    }

    private static void counts() {
        promise = 44;
        FlungFingers x = new FlungFingers();
        x.rule(0, 0, 3, 4);
        x.slate(7);
        x.round(1, 1);
        x.heard(1, 2, 0);
        x.heard(1, 2, 0);
        x.played(0, 1, 0, 0);
        x.played(0, 1, 0, 0);
        x.played(0, 1, 0, 0);
        x.left(0, 1);
        x.left(0, 1);
        x.left(0, 1);
        x.left(0, 1);
        x.odds(99);
        x.beat(98);
        int[] want = {0, 0, 3, 4, 1, 2, 3, 4, 99, 98, 7, 4};
        for (int what = 0; what <= 11; what++) {
            due("count(" + what + ")", x.count(what), want[what]);
        }
        refused(x, "count", () -> x.count(12), BAD);
        refused(x, "count", () -> x.count(-1), BAD);
        promise = 45;
        long h = 257;
        for (int v : want) {
            h = 31 * h + v;
        }
        x.flung(1, 3);
        x.round(NONE, 5);
        x.dispute(1, 1, true);
        h = h + 1 * 31L * 31 * 31 * 31 * 31 * 31 * 31;
        for (int v : new int[] {0, 1, 3, 0, 0, 1, 1, 0, 0, NONE, 5, 0, 1, 1, 2, 0, 1, 2, 0, 3, 3, 0, 0, 0, 0}) {
            h = 31 * h + v;
        }
        due("digest", x.digest(), h);
    }

    public static void main(String[] args) {
        newObject();
        rules();
        ways();
        pays();
        games();
        gameEdges();
        fractions();
        matches();
        rows();
        habits();
        tolds();
        replies();
        slates();
        filled();
        beats();
        leagues();
        firsts();
        counts();
        System.out.println(wrong == 0 ? "every promise is kept" : wrong + " answers are not as due");
        if (wrong != 0) {
            System.exit(1);
        }
    }
}
