import java.util.HashSet;
import java.util.Set;

/** Promises 15 to 26, sentence by sentence where they name an edge: MEN, habits, answers to them. */
public final class MenSentencesTest extends Sentences {
    private static void richAndFull(FlungFingers x) {
        rich(x);
        flingAll(x, 0, 1, 95);
    }

    /** Of RULE 1 .. 2 so many 1s: TRIED is 8 from four throws on, and THE TAIL behind k is 1 by 2 to the (times - k). */
    private static void ones(FlungFingers x, int man, int times, int odds) {
        x.forget(man);
        flingAll(x, man, 1, times);
        x.odds(odds);
    }

    private static void flinging() {
        sentence(15, "MEN 0 .. 3", x -> {
            for (int man = 0; man <= 3; man++) {
                due(x.flung(man, 1), 1);
            }
            refused(Sentences::rich, BAD, y -> y.flung(-1, 1), y -> y.flung(4, 1), y -> y.flung(SMALL, 1), y -> y.flung(BIG, 1));
        });
        sentence(15, "throws l .. f", x -> {
            refused(Sentences::rich, BAD, y -> y.flung(0, -1), y -> y.flung(0, 3), y -> y.flung(0, SMALL), y -> y.flung(0, BIG));
            for (int l = 0; l <= 1; l++) {
                for (int f = l + 1; f <= 4; f++) {
                    x.rule(1, l, f, 0);
                    due(x.flung(2, l - 1), BAD);
                    due(x.flung(2, l), 1);
                    due(x.flung(2, f), 2);
                    due(x.flung(2, f + 1), BAD);
                }
            }
        });
        sentence(15, "120 at most each: FULL", x -> {
            for (int i = 1; i <= 120; i++) {
                due(x.flung(1, 1 + i % 2), i);
            }
            due(x.flung(1, 1), FULL);
            due(x.flung(1, 2), FULL);
            due(x.comes(1, 0, 0, NONE), 120);
            due(x.flung(0, 1), 1);
            due(x.flung(2, 1), 1);
        });
        sentence(15, "FULL changes nothing", x -> refused(MenSentencesTest::richAndFull, FULL,
            y -> y.flung(0, 0), y -> y.flung(0, 1), y -> y.flung(0, 2)));
        sentence(15, "BAD ahead of FULL", x -> refused(MenSentencesTest::richAndFull, BAD,
            y -> y.flung(0, 3), y -> y.flung(0, -1), y -> y.flung(4, 1)));
    }

    private static void forgetting() {
        sentence(16, "the ROW of a MAN goes: how many, of an empty one none", x -> {
            due(x.forget(0), 0);
            fling(x, 0, "12");
            fling(x, 3, "1");
            due(x.forget(0), 2);
            due(x.forget(0), 0);
            due(x.forget(3), 1);
        });
        sentence(16, "a full ROW goes and can be filled again, the others stay", x -> {
            fling(x, 2, "121");
            flingAll(x, 1, 2, 120);
            due(x.forget(1), 120);
            due(x.flung(1, 1), 1);
            due(x.comes(1, 0, 0, 2), 0);
            due(x.comes(2, 0, 0, NONE), 3);
        });
        sentence(16, "BAD", x -> refused(Sentences::rich, BAD,
            y -> y.forget(-1), y -> y.forget(4), y -> y.forget(SMALL), y -> y.forget(BIG)));
    }

    private static void oddsEdges() {
        sentence(17, "1 .. 100000: what it was", x -> {
            due(x.odds(1), 20);
            due(x.odds(100000), 1);
            due(x.odds(100000), 100000);
            due(x.odds(20), 100000);
            due(x.count(8), 20);
        });
        sentence(17, "BAD", x -> refused(Sentences::rich, BAD,
            y -> y.odds(0), y -> y.odds(100001), y -> y.odds(-1), y -> y.odds(SMALL), y -> y.odds(BIG)));
    }

    private static void contexts() {
        sentence(18, "an empty ROW: no CONTEXT COMES", x -> {
            for (int k = 0; k <= 3; k++) {
                due(x.comes(0, k, 0, NONE), 0);
                due(x.comes(0, k, 0, 1), 0);
            }
        });
        sentence(18, "it stands and a throw follows: behind the last throw none does", x -> {
            fling(x, 0, "12");
            due(x.comes(0, 0, 0, NONE), 2);
            due(x.comes(0, 1, 0, NONE), 1);
            due(x.comes(0, 1, 1, NONE), 0);
            due(x.comes(0, 2, 1, NONE), 0);
            x.flung(0, 1);
            due(x.comes(0, 1, 1, NONE), 1);
            due(x.comes(0, 2, 1, NONE), 1);
            due(x.comes(0, 2, 1, 1), 1);
            due(x.comes(0, 2, 1, 2), 0);
        });
        sentence(18, "CONTEXTS may lie one over the other", x -> {
            fling(x, 0, "1111");
            for (int k = 0; k <= 3; k++) {
                due(x.comes(0, k, 0, NONE), 4 - k);
                due(x.comes(0, k, 0, 1), 4 - k);
                due(x.comes(0, k, 0, 2), 0);
            }
        });
        sentence(18, "a full ROW", x -> {
            flingAll(x, 0, 2, 120);
            for (int k = 0; k <= 3; k++) {
                due(x.comes(0, k, (1 << k) - 1, 2), 120 - k);
            }
        });
        sentence(18, "throw l as 0, the first highest", x -> {
            x.rule(0, 0, 2, 2);
            fling(x, 0, "2010");
            due(x.comes(0, 2, 6, 1), 1);
            due(x.comes(0, 2, 2, NONE), 0);
            due(x.comes(0, 3, 19, 0), 1);
            x.rule(0, 1, 4, 2);
            fling(x, 0, "4321");
            due(x.comes(0, 1, 3, 3), 1);
            due(x.comes(0, 2, 14, 2), 1);
            due(x.comes(0, 3, 57, 1), 1);
        });
        sentence(18, "the greatest CONTEXT", x -> {
            x.rule(0, 0, 4, 2);
            fling(x, 0, "4440");
            due(x.comes(0, 3, 124, 0), 1);
            due(x.comes(0, 3, 125, 0), BAD);
            due(x.comes(0, 2, 24, 4), 1);
            due(x.comes(0, 2, 25, 4), BAD);
            due(x.comes(0, 1, 4, 4), 2);
            due(x.comes(0, 1, 5, 4), BAD);
            due(x.comes(0, 0, 0, 4), 3);
            due(x.comes(0, 0, 1, 4), BAD);
        });
        sentence(18, "a MAN's own ROW", x -> {
            fling(x, 0, "111");
            fling(x, 3, "22");
            due(x.comes(0, 0, 0, 2), 0);
            due(x.comes(3, 0, 0, 2), 2);
            due(x.comes(1, 0, 0, NONE), 0);
        });
        sentence(18, "BAD: a MAN", x -> refused(Sentences::rich, BAD,
            y -> y.comes(-1, 0, 0, 0), y -> y.comes(4, 0, 0, 0), y -> y.comes(BIG, 0, 0, NONE), y -> y.comes(SMALL, 0, 0, NONE)));
        sentence(18, "BAD: k 0 .. 3", x -> refused(Sentences::rich, BAD,
            y -> y.comes(0, -1, 0, 0), y -> y.comes(0, 4, 0, 0), y -> y.comes(0, BIG, 0, 0), y -> y.comes(0, SMALL, 0, 0)));
        sentence(18, "BAD: a CONTEXT", x -> refused(Sentences::rich, BAD, y -> y.comes(0, 0, -1, 0), y -> y.comes(0, 0, 1, 0),
            y -> y.comes(0, 1, -1, 0), y -> y.comes(0, 1, 3, 0), y -> y.comes(0, 2, 9, 0), y -> y.comes(0, 3, 27, 0),
            y -> y.comes(0, 3, BIG, NONE), y -> y.comes(0, 3, SMALL, NONE)));
        sentence(18, "BAD: a throw (NONE is none of them)", x -> {
            refused(Sentences::rich, BAD, y -> y.comes(0, 0, 0, -2), y -> y.comes(0, 0, 0, 3), y -> y.comes(0, 0, 0, BIG),
                y -> y.comes(0, 0, 0, SMALL));
            due(x.comes(0, 0, 0, 0), BAD);
            due(x.comes(0, 0, 0, NONE), 0);
            due(x.comes(0, 0, 0, 1), 0);
            due(x.comes(0, 0, 0, 2), 0);
            due(x.comes(0, 0, 0, 3), BAD);
        });
    }

    /** A row of throws 0 .. 4 in which no three stand together twice. */
    private static String manyContexts() {
        StringBuilder row = new StringBuilder("000");
        Set<String> seen = new HashSet<>(Set.of("000"));
        while (row.length() < 120) {
            int next = 4;
            while (next >= 0 && seen.contains(row.substring(row.length() - 2) + next)) {
                next--;
            }
            row.append(next);
            seen.add(row.substring(row.length() - 3));
        }
        return row.toString();
    }

    private static void tries() {
        sentence(19, "an empty ROW, and from one throw to as many as there are", x -> {
            int[] want = {0, 2, 4, 6, 8, 8};
            for (int i = 0; i < want.length; i++) {
                due(x.tried(0), want[i]);
                x.flung(0, 1);
            }
        });
        sentence(19, "a CONTEXT behind which nothing follows is not TRIED", x -> {
            fling(x, 0, "112");
            due(x.tried(0), 2 * (1 + 1 + 1));
            x.flung(0, 2);
            due(x.tried(0), 2 * (1 + 2 + 2 + 1));
        });
        sentence(19, "times how many throws there are", x -> {
            for (int f = 1; f <= 4; f++) {
                x.rule(0, 0, f, 2);
                x.flung(0, f);
                due(x.tried(0), f + 1);
            }
        });
        sentence(19, "as many as a full ROW can have", x -> {
            x.rule(0, 0, 4, 2);
            fling(x, 0, manyContexts());
            due(x.comes(0, 0, 0, NONE), 120);
            due(x.tried(0), 5 * (1 + 5 + 25 + 117));
            x.odds(1);
            due(x.told(0), 0);
        });
        sentence(19, "BAD", x -> refused(Sentences::rich, BAD,
            y -> y.tried(-1), y -> y.tried(4), y -> y.tried(SMALL), y -> y.tried(BIG)));
    }

    private static void tails() {
        sentence(20, "COUNT or more: of none it is 1", x -> {
            ones(x, 0, 120, 1);
            due(x.tail(0, 0, 0, 2), 0);
            fraction(x, 1, 1);
        });
        sentence(20, "COUNT or more: all of them, all but one, one", x -> {
            x.rule(0, 0, 2, 2);
            fling(x, 0, "2220");
            x.tail(0, 1, 2, 2);
            fraction(x, 7, 27);
            x.tail(0, 1, 2, 0);
            fraction(x, 19, 27);
            x.tail(0, 2, 8, 2);
            fraction(x, 5, 9);
            x.tail(0, 3, 26, 0);
            fraction(x, 1, 3);
            x.tail(0, 0, 0, 2);
            fraction(x, 1, 9);
        });
        sentence(20, "TOLD: no more than 1: 1 is, more is not", x -> {
            ones(x, 0, 1, 1);
            due(x.tail(0, 0, 0, 1), 1);
            fraction(x, 1, 2);
            ones(x, 0, 1, 2);
            due(x.tail(0, 0, 0, 1), 0);
            ones(x, 0, 4, 2);
            due(x.tail(0, 0, 0, 1), 1);
            fraction(x, 1, 16);
            ones(x, 0, 4, 3);
            due(x.tail(0, 0, 0, 1), 0);
            fraction(x, 1, 16);
        });
        sentence(20, "TOLD with the greatest ODDS", x -> {
            ones(x, 0, 19, 100000);
            due(x.tail(0, 0, 0, 1), 0);
            ones(x, 0, 20, 100000);
            due(x.tail(0, 0, 0, 1), 1);
            due(x.tail(0, 1, 0, 1), 0);
            fraction(x, 1, 1 << 19);
        });
        sentence(20, "BAD", x -> refused(Sentences::rich, BAD, y -> y.tail(-1, 0, 0, 0), y -> y.tail(4, 0, 0, 0),
            y -> y.tail(0, -1, 0, 0), y -> y.tail(0, 4, 0, 0), y -> y.tail(0, 0, -1, 0), y -> y.tail(0, 0, 1, 0),
            y -> y.tail(0, 1, 3, 0), y -> y.tail(0, 2, 9, 0), y -> y.tail(0, 3, 27, 0), y -> y.tail(0, 3, -1, 0),
            y -> y.tail(0, 0, 0, 3), y -> y.tail(0, 0, 0, -2), y -> y.tail(BIG, BIG, BIG, BIG)));
        sentence(20, "BAD: NONE is no throw", x -> refused(Sentences::rich, BAD, y -> y.tail(0, 0, 0, NONE)));
        sentence(20, "NO: the CONTEXT does not COME, changing nothing", x -> refused(Sentences::rich, NO,
            y -> y.tail(1, 0, 0, 0), y -> y.tail(0, 2, 0, 1), y -> y.tail(3, 1, 1, 0),
            y -> y.tail(3, 2, 7, 0), y -> y.tail(3, 3, 0, 0)));
        sentence(20, "NO: it stands, but nothing follows", x -> {
            fling(x, 0, "12");
            due(x.tail(0, 1, 1, 1), NO);
            due(x.tail(0, 2, 1, 1), NO);
            due(x.tail(0, 1, 0, 1), 0);
            x.flung(0, 1);
            due(x.tail(0, 1, 1, 1), 0);
            due(x.tail(0, 3, 2, 1), NO);
        });
        sentence(20, "BAD ahead of NO", x -> refused(Sentences::rich, BAD,
            y -> y.tail(1, 0, 0, 3), y -> y.tail(1, 0, 1, 0), y -> y.tail(0, 2, 0, NONE), y -> y.tail(1, 4, 0, 0)));
    }

    private static void tellings() {
        sentence(21, "of an empty ROW none, of one throw one or none", x -> {
            x.odds(1);
            due(x.told(0), 0);
            ones(x, 0, 1, 1);
            due(x.told(0), 1);
            ones(x, 0, 1, 2);
            due(x.told(0), 0);
        });
        sentence(21, "TOLD up to 1 and no further", x -> {
            ones(x, 0, 4, 1);
            due(x.told(0), 2);
            ones(x, 0, 4, 2);
            due(x.told(0), 1);
            ones(x, 0, 4, 3);
            due(x.told(0), 0);
        });
        sentence(21, "it leaves THE FRACTION", x -> {
            x.chance(1, 2);
            ones(x, 0, 9, 1);
            due(x.told(0), 4);
            fraction(x, 3, 4);
        });
        sentence(21, "BAD", x -> refused(Sentences::rich, BAD,
            y -> y.told(-1), y -> y.told(4), y -> y.told(SMALL), y -> y.told(BIG)));
        sentence(22, "10000 k and 10 CONTEXT and fingers: the least and the greatest", x -> {
            x.rule(0, 0, 4, 2);
            flingAll(x, 0, 0, 120);
            flingAll(x, 1, 4, 120);
            int[] least = {0, 10000, 20000, 30000}, greatest = {4, 10044, 20244, 31244};
            for (int k = 0; k <= 3; k++) {
                due(x.toldAt(0, k), least[k]);
                due(x.toldAt(1, k), greatest[k]);
            }
            due(x.toldAt(0, 4), NONE);
            due(x.toldAt(1, 4), NONE);
        });
        sentence(22, "by k, CONTEXTS, throws", x -> {
            for (int i = 0; i < 40; i++) {
                x.flung(0, i % 2 == 0 ? 2 : 1);
            }
            int[] want = {10002, 10011, 20011, 20022, 30022, 30051};
            due(x.told(0), want.length);
            for (int i = 0; i < want.length; i++) {
                due(x.toldAt(0, i), want[i]);
            }
            due(x.toldAt(0, want.length), NONE);
        });
        sentence(22, "NONE: not so many", x -> {
            due(x.toldAt(0, 0), NONE);
            ones(x, 0, 4, 2);
            due(x.toldAt(0, 0), 1);
            due(x.toldAt(0, 1), NONE);
            due(x.toldAt(0, BIG), NONE);
            due(x.toldAt(1, 0), NONE);
        });
        sentence(22, "BAD: a MAN", x -> refused(Sentences::rich, BAD,
            y -> y.toldAt(-1, 0), y -> y.toldAt(4, 0), y -> y.toldAt(4, BIG), y -> y.toldAt(SMALL, 0)));
        sentence(22, "BAD: i below 0, too", x -> refused(Sentences::rich, BAD,
            y -> y.toldAt(0, -1), y -> y.toldAt(1, -1), y -> y.toldAt(0, SMALL)));
    }

    private static void foreseeing() {
        sentence(23, "NONE: an empty ROW, a ROW behind whose last throws nothing is TOLD", x -> {
            x.odds(1);
            due(x.foreseen(0), NONE);
            ones(x, 0, 4, 3);
            due(x.foreseen(0), NONE);
        });
        sentence(23, "a ROW that is shorter than k", x -> {
            ones(x, 0, 1, 1);
            due(x.foreseen(0), 0);
        });
        sentence(23, "the greatest k, from 0 to 3", x -> {
            int[] want = {0, 1, 2, 3, 3};
            for (int k = 0; k < want.length; k++) {
                ones(x, 0, 3 + k, 1);
                due(x.foreseen(0), want[k]);
            }
            ones(x, 0, 6, 2);
            due(x.foreseen(0), 2);
            ones(x, 0, 120, 100000);
            due(x.foreseen(0), 3);
        });
        sentence(23, "behind the last throws: what is TOLD elsewhere does not count", x -> {
            for (int i = 0; i < 20; i++) {
                fling(x, 0, "12");
            }
            due(x.foreseen(0), 3);
            due(x.foreseenAt(0, 1), 18);
            x.rule(0, 0, 2, 2);
            for (int i = 0; i < 20; i++) {
                fling(x, 0, "01");
            }
            fling(x, 0, "2");
            holds(x.told(0) > 0);
            due(x.foreseen(0), NONE);
        });
        sentence(23, "BAD", x -> refused(Sentences::rich, BAD,
            y -> y.foreseen(-1), y -> y.foreseen(4), y -> y.foreseen(SMALL), y -> y.foreseen(BIG)));
        sentence(24, "COUNT of a throw, of none 0", x -> {
            ones(x, 0, 6, 1);
            due(x.foreseenAt(0, 1), 3);
            due(x.foreseenAt(0, 2), 0);
            ones(x, 0, 1, 1);
            due(x.foreseenAt(0, 1), 1);
            due(x.foreseenAt(0, 2), 0);
        });
        sentence(24, "NONE", x -> {
            due(x.foreseenAt(0, 1), NONE);
            ones(x, 0, 4, 3);
            due(x.foreseenAt(0, 1), NONE);
            due(x.foreseenAt(0, 2), NONE);
        });
        sentence(24, "BAD", x -> refused(Sentences::rich, BAD, y -> y.foreseenAt(-1, 0), y -> y.foreseenAt(4, 0),
            y -> y.foreseenAt(0, -1), y -> y.foreseenAt(0, 3), y -> y.foreseenAt(BIG, 0), y -> y.foreseenAt(0, SMALL)));
        sentence(24, "BAD also where nothing is FORESEEN", x -> {
            due(x.foreseenAt(0, 0), BAD);
            due(x.foreseenAt(0, 3), BAD);
            due(x.foreseenAt(4, 1), BAD);
        });
    }

    /** AN ANSWER by its definition, from PAYS, MIXES and THE VALUE as they are told. */
    private static final class Answer {
        private final FlungFingers x = new FlungFingers();
        private final int[] rule;
        private final int ways;
        private final int[][] pays;
        private final Ratio[] mix, weight, earned, mean;
        private final Ratio value;
        private Ratio mixMean = Ratio.ZERO;

        Answer(int[] rule, int most) {
            this.rule = rule;
            ways = setRule(x);
            pays = new int[ways][ways];
            mix = new Ratio[ways];
            weight = new Ratio[ways];
            earned = new Ratio[ways];
            mean = new Ratio[ways];
            x.value();
            value = read(x);
            readTable();
            foresee(most);
            for (int i = 0; i < ways; i++) {
                earned[i] = Ratio.ZERO;
                mean[i] = Ratio.ZERO;
                for (int j = 0; j < ways; j++) {
                    earned[i] = earned[i].plus(mix[j].times(Ratio.of(pays[j][i])));
                    mean[i] = mean[i].plus(weight[j].times(Ratio.of(pays[i][j])));
                }
                mixMean = mixMean.plus(mix[i].times(mean[i]));
            }
        }

        private int setRule(FlungFingers y) {
            return y.rule(rule[0], rule[1], rule[2], rule[3]);
        }

        private void readTable() {
            for (int i = 0; i < ways; i++) {
                FlungFingers y = new FlungFingers();
                setRule(y);
                for (int j = 0; j < ways; j++) {
                    pays[i][j] = y.pay(i, j);
                }
                y.mix(0, i);
                mix[i] = read(y);
            }
        }

        /** The MAN throws this mostly, now and then another. */
        private void foresee(int most) {
            int l = rule[1], f = rule[2], n = f - l + 1;
            for (int i = 0; i < 60; i++) {
                x.flung(0, i % 7 == 3 ? l + (most - l + 1) % n : most);
            }
            int all = 0;
            for (int fingers = rule[1]; fingers <= f; fingers++) {
                all += x.foreseenAt(0, fingers);
            }
            for (int j = 0; j < ways; j++) {
                weight[j] = Ratio.of(x.foreseenAt(0, x.way(j, 0)), (long) all * (rule[0] == 0 ? 1 : n));
            }
        }

        private Ratio against(int i, Ratio t, int j) {
            return Ratio.ONE.minus(t).times(earned[j]).plus(t.times(Ratio.of(pays[i][j])));
        }

        private Ratio worst(int i, Ratio t) {
            Ratio least = against(i, t, 0);
            for (int j = 1; j < ways; j++) {
                Ratio one = against(i, t, j);
                least = one.compareTo(least) < 0 ? one : least;
            }
            return least;
        }

        private Ratio greatest(int i, Ratio floor) {
            Ratio t = Ratio.ONE;
            for (int j = 0; j < ways; j++) {
                Ratio fall = earned[j].minus(Ratio.of(pays[i][j]));
                if (fall.sign() > 0) {
                    Ratio most = earned[j].minus(floor).by(fall);
                    t = most.compareTo(t) < 0 ? most : t;
                }
            }
            return t;
        }

        void isAsDefined(int e) {
            Ratio floor = value.minus(Ratio.of(e, 1000));
            int best = NONE;
            Ratio bestT = Ratio.ZERO, bestGain = Ratio.ZERO;
            for (int i = 0; i < ways; i++) {
                Ratio more = mean[i].minus(mixMean), t = greatest(i, floor);
                if (more.sign() > 0 && (best == NONE || t.times(more).compareTo(bestGain) > 0)) {
                    best = i;
                    bestT = t;
                    bestGain = t.times(more);
                }
            }
            due(x.answer(0, e), best);
            if (best == NONE) {
                return;
            }
            due(read(x).compareTo(bestT), 0);
            holds(worst(best, bestT).compareTo(floor) >= 0);
            due(x.answers(0, e, 0), mixMean.plus(bestGain).sign());
            due(read(x).compareTo(mixMean.plus(bestGain)), 0);
            due(x.answers(0, e, 1), worst(best, bestT).sign());
            due(read(x).compareTo(worst(best, bestT)), 0);
        }
    }

    private static void answering() {
        sentence(25, "t 0 .. 1: from nothing to all", x -> {
            ones(x, 0, 25, 20);
            due(x.answer(0, 0), 0);
            fraction(x, 0, 1);
            due(x.answer(0, 1), 0);
            fraction(x, 1, 1000);
            due(x.answer(0, 999), 0);
            fraction(x, 999, 1000);
            due(x.answer(0, 1000), 0);
            fraction(x, 1, 1);
            due(x.answer(0, 1001), 0);
            fraction(x, 1, 1);
            due(x.answer(0, 2000), 0);
            fraction(x, 1, 1);
        });
        sentence(25, "e 0 .. 1000 times E, E being the greatest size of a PAY and 1", x -> {
            for (int kind = 0; kind <= 2; kind++) {
                for (int f = 1; f <= 4; f++) {
                    x.rule(kind, 0, f, 2);
                    flingAll(x, 3, f, 20);
                    int most = kind == 2 ? 1000 * (2 * f + 1) : 2000;
                    holds(x.answer(3, 0) >= 0);
                    holds(x.answer(3, most) >= 0);
                    due(x.answer(3, most + 1), BAD);
                    due(x.answer(3, -1), BAD);
                    due(x.answers(3, most + 1, 0), FAR_BAD);
                }
            }
        });
        sentence(25, "of like ones the least i", x -> {
            x.rule(0, 0, 3, 2);
            flingAll(x, 0, 1, 25);
            due(x.answer(0, 0), 1);
            due(x.answer(0, 500), 1);
            x.rule(0, 0, 4, 2);
            flingAll(x, 0, 4, 25);
            due(x.answer(0, 0), 0);
            due(x.answer(0, 2000), 0);
        });
        sentence(25, "the MAN's throws as FORESEEN, each with all calls of it alike", x -> {
            x.rule(1, 0, 1, 0);
            flingAll(x, 0, 1, 25);
            // he throws 1 and calls 1 or 2: who throws 0 is right by calling 1, who throws 1 by calling 2
            due(x.answer(0, 2000), 1);
            fraction(x, 1, 1);
            due(x.answers(0, 2000, 0), 1);
            fraction(x, 1, 2);
        });
        sentence(25, "by the definition: t as great as may be, the greatest t times (W(i) less G), the least i", x -> {
            for (int number = 0; number < 3 * 2 * 4 * 4; number++) {
                int[] rule = {number % 3, number / 3 % 2, 1 + number / 6 % 4, 2 + number / 24};
                boolean isRule = rule[2] > rule[1] && (rule[0] == 0 || rule[3] == 2);
                for (int most = rule[1]; most <= rule[2] && isRule; most++) {
                    for (int e : new int[] {0, 1, 37, 333, 1000, 1999, 2000}) {
                        new Answer(rule, most).isAsDefined(e);
                    }
                }
            }
        });
        sentence(25, "NONE: no WAY brings more than THE MIX, and THE FRACTION stays", x -> refused(y -> {
            y.rule(1, 0, 2, 0);
            y.chance(2, 1);
            y.rule(0, 1, 2, 5);
            flingAll(y, 0, 1, 25);
        }, NONE, y -> y.answer(0, 0), y -> y.answer(0, 2000)));
        sentence(25, "BAD", x -> refused(Sentences::rich, BAD, y -> y.answer(-1, 0), y -> y.answer(4, 0), y -> y.answer(0, -1),
            y -> y.answer(0, 2001), y -> y.answer(0, SMALL), y -> y.answer(0, BIG), y -> y.answer(BIG, 0)));
        sentence(25, "NO: nothing is FORESEEN", x -> refused(Sentences::rich, NO,
            y -> y.answer(1, 0), y -> y.answer(3, 0), y -> y.answer(3, 2000)));
        sentence(25, "BAD ahead of NO", x -> refused(Sentences::rich, BAD, y -> y.answer(1, -1), y -> y.answer(3, 2001)));
        sentence(25, "NO of a RULE by which no WAY brings more", x -> {
            x.rule(0, 1, 2, 5);
            due(x.answer(0, 0), NO);
            due(x.answer(0, 2001), BAD);
        });
    }

    private static void answersTheyBring() {
        sentence(26, "what 0: on the mean; 1: against the WAY that is worst for it", x -> {
            ones(x, 0, 25, 20);
            due(x.answers(0, 0, 0), 0);
            fraction(x, 0, 1);
            due(x.answers(0, 0, 1), 0);
            fraction(x, 0, 1);
            due(x.answers(0, 1, 0), 1);
            fraction(x, 1, 1000);
            due(x.answers(0, 1, 1), -1);
            fraction(x, -1, 1000);
            due(x.answers(0, 2000, 0), 1);
            fraction(x, 1, 1);
            due(x.answers(0, 2000, 1), -1);
            fraction(x, -1, 1);
        });
        sentence(26, "its sign on the mean: below 0, 0, above 0", x -> {
            x.rule(0, 0, 4, 5);
            flingAll(x, 0, 0, 60);
            // WAY 0 brings 1, THE MIX -3 by 5, and t is e by 400
            int[][] want = {{0, -1, -3, 5}, {100, -1, -1, 5}, {149, -1, -1, 250}, {150, 0, 0, 1}, {151, 1, 1, 250}, {200, 1, 1, 5},
                {400, 1, 1, 1}, {2000, 1, 1, 1}};
            for (int[] w : want) {
                due(x.answers(0, w[0], 0), w[1]);
                fraction(x, w[2], w[3]);
            }
            due(x.answers(0, 100, 1), -1);
            fraction(x, -7, 10);
        });
        sentence(26, "the WAY that is worst: the first one, the last one", x -> {
            flingAll(x, 0, 2, 25);
            due(x.answers(0, 300, 1), -1);
            fraction(x, -3, 10);
            x.rule(0, 1, 2, 2);
            flingAll(x, 0, 1, 25);
            due(x.answers(0, 300, 1), -1);
            fraction(x, -3, 10);
        });
        sentence(26, "BAD: -100: what", x -> refused(Sentences::rich, FAR_BAD,
            y -> y.answers(0, 0, -1), y -> y.answers(0, 0, 2), y -> y.answers(0, 0, SMALL), y -> y.answers(0, 0, BIG)));
        sentence(26, "BAD: -100: a MAN, e", x -> refused(Sentences::rich, FAR_BAD, y -> y.answers(-1, 0, 0),
            y -> y.answers(4, 0, 0), y -> y.answers(0, -1, 0), y -> y.answers(0, 2001, 0), y -> y.answers(0, BIG, 1)));
        sentence(26, "NO: -200", x -> refused(Sentences::rich, FAR_NO, y -> y.answers(1, 0, 0), y -> y.answers(3, 2000, 1)));
        sentence(26, "-100 ahead of -200", x -> refused(Sentences::rich, FAR_BAD,
            y -> y.answers(1, 0, 2), y -> y.answers(1, -1, 0), y -> y.answers(3, 2001, 1)));
        Story alike = y -> {
            rich(y);
            y.rule(0, 1, 2, 5);
            flingAll(y, 0, 1, 25);
        };
        sentence(26, "NONE: -300", x -> refused(alike, FAR_NONE, y -> y.answers(0, 0, 0), y -> y.answers(0, 2000, 1)));
        sentence(26, "-100 ahead of -300", x -> refused(alike, FAR_BAD, y -> y.answers(0, 0, 2), y -> y.answers(0, 2001, 0)));
        sentence(26, "-200 ahead of -300", x -> refused(alike, FAR_NO, y -> y.answers(1, 0, 0)));
    }

    public static void main(String[] args) {
        flinging();
        forgetting();
        oddsEdges();
        contexts();
        tries();
        tails();
        tellings();
        foreseeing();
        answering();
        answersTheyBring();
        end();
    }
}
