import java.math.BigInteger;

/** Promises 27 to 37, sentence by sentence where they name an edge: slates, beats. */
public final class SlateSentencesTest extends Sentences {
    private static final long MOST_FILLS = 1000000000000000000L;

    private static void richAndFull(FlungFingers x) {
        rich(x);
        rounds(x, 37);
        for (int i = 4; i < 60; i++) {
            x.heard(i, 0, i % 2);
        }
    }

    private static void slates() {
        sentence(27, "p 1 .. 21", x -> {
            due(x.slate(1), 1);
            due(x.count(10), 1);
            due(x.slate(21), 1);
            due(x.count(10), 21);
            refused(Sentences::rich, BAD, y -> y.slate(0), y -> y.slate(22), y -> y.slate(-1), y -> y.slate(SMALL), y -> y.slate(BIG));
        });
        sentence(27, "without ROUNDS, a full SLATE too", x -> {
            rounds(x, 40);
            due(x.round(0, 0), FULL);
            due(x.slate(1), 1);
            due(x.count(4), 0);
            due(x.fills(), 1);
            due(x.wrong(), NONE);
            due(x.had(0, 0, true), BAD);
            due(x.dispute(0, 0, true), BAD);
            due(x.round(0, 1), 1);
            due(x.fills(), 1);
        });
        sentence(27, "what was DISPUTED on the one before is so no more", x -> {
            x.slate(3);
            x.round(0, 0);
            x.dispute(0, 0, true);
            x.dispute(0, 1, true);
            due(x.fills(), 2);
            x.slate(3);
            x.round(0, 0);
            due(x.fills(), 0);
        });
        sentence(27, "nor is what was DISPUTED behind later ROUNDS", x -> {
            x.slate(9);
            for (int i = 0; i < 4; i++) {
                x.round(0, i);
                x.dispute(i, 1, true);
            }
            due(x.fills(), 1);
            x.slate(9);
            for (int i = 0; i < 4; i++) {
                x.round(NONE, i);
                due(x.had(i, 1, true), i);
            }
            x.slate(9);
            x.round(0, 1);
            x.round(0, 1);
            due(x.wrong(), 1);
        });
    }

    private static void marks() {
        sentence(28, "marks 0 .. 60 or NONE: how many", x -> {
            due(x.round(0, 60), 1);
            due(x.round(60, 0), 2);
            due(x.round(NONE, 60), 3);
            due(x.round(60, NONE), 4);
            due(x.round(NONE, NONE), 5);
        });
        sentence(28, "BAD: 0 .. 60", x -> refused(Sentences::rich, BAD, y -> y.round(-2, 0), y -> y.round(0, -2), y -> y.round(61, 0),
            y -> y.round(0, 61), y -> y.round(SMALL, 0), y -> y.round(0, BIG), y -> y.round(61, NONE), y -> y.round(NONE, -2)));
        sentence(28, "up to 40 ROUNDS", x -> {
            for (int i = 1; i <= 40; i++) {
                due(x.round(i, NONE), i);
            }
            due(x.round(1, 0), FULL);
            due(x.count(4), 40);
        });
        sentence(28, "FULL changes nothing", x -> refused(SlateSentencesTest::richAndFull, FULL,
            y -> y.round(NONE, NONE), y -> y.round(0, 60), y -> y.round(60, 0)));
        sentence(28, "BAD ahead of FULL", x -> refused(SlateSentencesTest::richAndFull, BAD,
            y -> y.round(61, 0), y -> y.round(0, -2)));
    }

    private static void disputes() {
        sentence(29, "DISPUTED v: v or v + 1", x -> {
            x.rule(1, 0, 1, 0);
            x.slate(9);
            rounds(x, 4);
            x.round(1, NONE);
            due(x.had(4, 0, false), 1);
            due(x.had(4, 0, true), 1);
            due(x.dispute(4, 0, true), 1);
            due(x.had(4, 0, false), 1);
            due(x.had(4, 0, true), 2);
            due(x.had(4, 1, false), 0);
            due(x.had(4, 1, true), 4);
        });
        sentence(29, "(or no more)", x -> {
            x.slate(3);
            x.round(0, 0);
            due(x.fills(), 0);
            due(x.dispute(0, 1, true), 1);
            due(x.fills(), 1);
            due(x.had(0, 1, false), 1);
            due(x.dispute(0, 1, true), 1);
            due(x.fills(), 1);
            due(x.dispute(0, 0, true), 1);
            due(x.fills(), 2);
            due(x.dispute(0, 1, false), 1);
            due(x.fills(), 1);
            due(x.had(0, 0, true), 1);
            due(x.dispute(0, 0, false), 1);
            due(x.fills(), 0);
            due(x.dispute(0, 0, false), 1);
            due(x.fills(), 0);
        });
        sentence(29, "the marks 0 and 60, the first ROUND and the last", x -> {
            x.slate(1);
            for (int i = 0; i < 40; i++) {
                x.round(60, 0);
            }
            for (int i = 0; i < 40; i += 39) {
                due(x.dispute(i, 0, true), 1);
                due(x.dispute(i, 1, true), 1);
            }
            due(x.fills(), 0);
            due(x.wrong(), 0);
        });
        sentence(29, "the greatest number there can be: 28, DISPUTED 27 and 28", x -> {
            x.rule(2, 0, 4, 0);
            x.slate(21);
            x.round(8, 0);
            x.round(16, 0);
            x.round(20, 0);
            x.round(28, 0);
            due(x.fills(), 1);
            due(x.dispute(3, 0, true), 1);
            due(x.fills(), 1);
            due(x.had(3, 0, true), 28);
            x.slate(21);
            x.round(8, 0);
            x.round(16, 0);
            x.round(NONE, 0);
            x.round(27, 0);
            due(x.had(3, 0, true), 27);
            x.dispute(3, 0, true);
            due(x.had(3, 0, true), 28);
            due(x.had(2, 0, false), 19);
            due(x.had(2, 0, true), 20);
        });
        sentence(29, "BAD: a ROUND", x -> {
            refused(Sentences::rich, BAD, y -> y.dispute(-1, 0, true), y -> y.dispute(3, 0, true), y -> y.dispute(SMALL, 0, true),
                y -> y.dispute(BIG, 0, false));
            due(x.dispute(0, 0, true), BAD);
        });
        sentence(29, "BAD: a PLAYER", x -> refused(Sentences::rich, BAD,
            y -> y.dispute(0, -1, true), y -> y.dispute(0, 2, true), y -> y.dispute(0, BIG, true), y -> y.dispute(2, 2, false)));
        sentence(29, "NO: it is LOST", x -> refused(Sentences::rich, NO,
            y -> y.dispute(1, 0, true), y -> y.dispute(2, 1, true), y -> y.dispute(1, 0, false), y -> y.dispute(2, 1, false)));
        sentence(29, "BAD ahead of NO", x -> refused(Sentences::rich, BAD, y -> y.dispute(1, 2, true), y -> y.dispute(3, 1, true)));
    }

    /** FILLS of a SLATE to p whose only ROUND is this. */
    private static long one(FlungFingers x, int p, int a, int b) {
        x.slate(p);
        x.round(a, b);
        return x.fills();
    }

    /** Of ONE, with so many ROUNDS that are LOST: by the definition, in whole numbers without an end. */
    private static BigInteger fillsOfOne(int p, int rounds) {
        BigInteger[][] now = new BigInteger[p + 1][p + 1];
        for (int round = 0; round <= rounds; round++) {
            BigInteger[][] next = new BigInteger[p + 1][p + 1];
            for (int a = 0; a <= p; a++) {
                for (int b = 0; b <= p; b++) {
                    BigInteger all = round == 0 && a == 0 && b == 0 ? BigInteger.ONE : BigInteger.ZERO;
                    if (round > 0) {
                        all = a < p && b < p ? now[a][b] : BigInteger.ZERO;
                        all = a > 0 && b < p ? all.add(now[a - 1][b]) : all;
                        all = b > 0 && a < p ? all.add(now[a][b - 1]) : all;
                    }
                    next[a][b] = all;
                }
            }
            now = next;
        }
        BigInteger sum = BigInteger.ZERO;
        for (BigInteger[] row : now) {
            for (BigInteger v : row) {
                sum = sum.add(v);
            }
        }
        return sum;
    }

    private static void fillsByRule() {
        sentence(30, "no ROUNDS: one row, that has nothing in it", x -> {
            due(x.fills(), 1);
            x.rule(2, 0, 4, 0);
            due(x.fills(), 1);
            x.slate(21);
            due(x.fills(), 1);
        });
        sentence(30, "of MULTIPLES one of both has one more", x -> {
            due(one(x, 5, 1, 0), 1);
            due(one(x, 5, 0, 1), 1);
            due(one(x, 5, 0, 0), 0);
            due(one(x, 5, 1, 1), 0);
            due(one(x, 5, 2, 0), 0);
            due(one(x, 5, 0, 2), 0);
            due(one(x, 5, NONE, NONE), 2);
        });
        sentence(30, "of ONE likewise, or none", x -> {
            x.rule(1, 1, 4, 0);
            due(one(x, 5, 1, 0), 1);
            due(one(x, 5, 0, 1), 1);
            due(one(x, 5, 0, 0), 1);
            due(one(x, 5, 1, 1), 0);
            due(one(x, 5, 2, 0), 0);
            due(one(x, 5, NONE, NONE), 3);
        });
        sentence(30, "of SUM one has s more, 2 l .. 2 f", x -> {
            for (int f = 2; f <= 4; f++) {
                x.rule(2, 1, f, 0);
                due(one(x, 5, 0, 0), 1);
                due(one(x, 5, 1, 0), 0);
                due(one(x, 5, 0, 1), 0);
                due(one(x, 5, 2, 0), 1);
                due(one(x, 5, 0, 2), 1);
                due(one(x, 5, 2 * f, 0), 1);
                due(one(x, 5, 0, 2 * f), 1);
                due(one(x, 5, 2 * f + 1, 0), 0);
                due(one(x, 5, 0, 2 * f + 1), 0);
                due(one(x, 5, 2, 2), 0);
                due(one(x, 5, NONE, NONE), 2 * (2 * f - 1) + 1);
            }
        });
        sentence(30, "of SUM one has s more, above 0: nothing more is told once", x -> {
            for (int f = 1; f <= 4; f++) {
                x.rule(2, 0, f, 0);
                due(one(x, 5, 0, 0), 1);
                due(one(x, 5, 1, 0), 1);
                due(one(x, 5, 0, 2 * f), 1);
                due(one(x, 5, 0, 2 * f + 1), 0);
                due(one(x, 5, 2 * f + 1, 0), 0);
                due(one(x, 5, NONE, NONE), 2 * 2 * f + 1);
            }
        });
        sentence(30, "a mark that no one can have", x -> {
            x.rule(2, 0, 4, 0);
            for (int mark = 29; mark <= 60; mark++) {
                due(one(x, 21, mark, NONE), 0);
                due(one(x, 21, NONE, mark), 0);
            }
        });
    }

    private static void fillsToTheEnd() {
        sentence(30, "once one has p there is no further ROUND: p 1", x -> {
            x.slate(1);
            x.round(1, NONE);
            due(x.fills(), 1);
            x.round(1, NONE);
            due(x.fills(), 0);
        });
        sentence(30, "once one has p there is no further ROUND: p 21", x -> {
            x.slate(21);
            for (int i = 1; i <= 21; i++) {
                x.round(i, 0);
                due(x.fills(), 1);
            }
            x.round(22, 0);
            due(x.fills(), 0);
        });
        sentence(30, "once one has p there is no further ROUND: the other one", x -> {
            x.rule(1, 0, 1, 0);
            x.slate(2);
            x.round(0, 1);
            x.round(0, 2);
            due(x.fills(), 1);
            x.round(0, 2);
            due(x.fills(), 0);
        });
        sentence(30, "or more: by one score far above p", x -> {
            x.rule(2, 0, 4, 0);
            x.slate(5);
            x.round(4, 0);
            x.round(12, 0);
            due(x.fills(), 1);
            x.round(12, 0);
            due(x.fills(), 0);
            due(one(x, 1, 8, 0), 1);
        });
        sentence(30, "both may come to p - 1", x -> {
            x.slate(2);
            rounds(x, 2);
            x.round(1, 2);
            due(x.fills(), 2);
            x.slate(1);
            rounds(x, 2);
            due(x.fills(), 0);
        });
        sentence(30, "1000000000000000000 at most", x -> {
            x.rule(1, 0, 1, 0);
            x.slate(21);
            rounds(x, 36);
            for (int i = 37; i <= 40; i++) {
                x.round(NONE, NONE);
                BigInteger all = fillsOfOne(21, i);
                due(x.fills(), all.min(BigInteger.valueOf(MOST_FILLS)).longValueExact());
                due(all.compareTo(BigInteger.valueOf(MOST_FILLS)), i == 37 ? -1 : 1);
            }
        });
        sentence(30, "what is too much behind one ROUND may be little behind the next", x -> {
            x.rule(2, 0, 4, 0);
            x.slate(21);
            rounds(x, 39);
            due(x.fills(), MOST_FILLS);
            x.round(0, 0);
            due(x.fills(), 1);
        });
        sentence(30, "a ROUND more, a mark DISPUTED, a RULE: it is counted anew", x -> {
            x.slate(3);
            x.round(0, NONE);
            due(x.fills(), 1);
            x.round(NONE, NONE);
            due(x.fills(), 2);
            x.dispute(0, 0, true);
            due(x.fills(), 4);
            x.rule(1, 0, 1, 0);
            due(x.fills(), 9);
            x.rule(0, 1, 2, 2);
            due(x.fills(), 4);
            x.dispute(0, 0, false);
            due(x.fills(), 2);
        });
    }

    private static void hads() {
        sentence(31, "the least, the greatest, of each PLAYER, behind each ROUND", x -> {
            x.slate(3);
            rounds(x, 2);
            x.round(2, 1);
            int[][] least = {{0, 0}, {1, 0}, {2, 1}}, greatest = {{1, 1}, {2, 1}, {2, 1}};
            for (int i = 0; i < 3; i++) {
                for (int player = 0; player <= 1; player++) {
                    due(x.had(i, player, false), least[i][player]);
                    due(x.had(i, player, true), greatest[i][player]);
                }
            }
        });
        sentence(31, "what comes behind tells too: none had p ahead of the last ROUND", x -> {
            x.rule(2, 1, 4, 0);
            x.slate(21);
            rounds(x, 40);
            due(x.had(39, 0, true), 28);
            due(x.had(39, 1, true), 28);
            due(x.had(38, 0, true), 20);
            due(x.had(38, 1, true), 20);
            due(x.had(39, 0, false), 0);
            due(x.had(0, 0, true), 8);
            due(x.had(1, 1, true), 16);
            due(x.had(0, 0, false), 0);
        });
        sentence(31, "what comes behind tells of the first ROUND too", x -> {
            x.slate(5);
            x.round(NONE, NONE);
            due(x.had(0, 0, true), 1);
            x.round(0, NONE);
            due(x.had(0, 0, true), 0);
            due(x.had(0, 1, false), 1);
            x.slate(5);
            x.round(NONE, NONE);
            x.round(NONE, 0);
            due(x.had(0, 1, true), 0);
            due(x.had(0, 0, false), 1);
            due(x.had(1, 1, true), 0);
        });
        sentence(31, "what one comes to from several sides: the greatest by way of the least", x -> {
            x.rule(2, 0, 4, 0);
            x.slate(19);
            x.round(0, NONE);
            x.dispute(0, 0, true);
            x.round(NONE, NONE);
            x.round(2, NONE);
            // the other one has 8 and 16, while this one has 0, and 2 at the end
            due(x.had(1, 1, true), 16);
            due(x.had(2, 1, true), 16);
            due(x.had(1, 0, true), 2);
        });
        sentence(31, "what one comes to from several sides: by DISPUTED marks that leave one throw", x -> {
            x.rule(2, 1, 3, 0);
            x.slate(16);
            int[][] marks = {{NONE, 5}, {NONE, 6}, {1, NONE}, {7, NONE}, {7, NONE}};
            for (int[] mark : marks) {
                x.round(mark[0], mark[1]);
            }
            x.dispute(0, 1, true);
            x.dispute(1, 1, true);
            x.dispute(2, 0, true);
            // 5 and 2 more, or 6 and none; 0, 0, 2 and 7, or 0, 2, 2 and 7
            due(x.had(0, 1, false), 5);
            due(x.had(0, 1, true), 6);
            due(x.had(1, 1, false), 6);
            due(x.had(1, 1, true), 7);
            due(x.had(2, 0, false), 2);
            due(x.had(2, 1, true), 12);
        });
        sentence(31, "a mark DISPUTED or no more, another RULE: it is found anew", x -> {
            x.rule(1, 0, 1, 0);
            x.slate(5);
            x.round(NONE, 0);
            due(x.had(0, 0, false), 0);
            x.rule(0, 0, 1, 2);
            due(x.had(0, 0, false), 1);
            x.dispute(0, 1, true);
            due(x.had(0, 0, false), 0);
            due(x.had(0, 1, true), 1);
            x.dispute(0, 1, false);
            due(x.had(0, 0, false), 1);
            due(x.had(0, 1, true), 0);
            x.rule(2, 0, 4, 0);
            due(x.had(0, 0, true), 8);
            x.rule(1, 0, 4, 0);
            due(x.had(0, 0, true), 1);
        });
        sentence(31, "NONE: there are no FILLS", x -> {
            x.slate(3);
            x.round(1, 0);
            x.round(0, 0);
            due(x.had(0, 0, false), NONE);
            due(x.had(0, 1, true), NONE);
            due(x.had(1, 0, true), NONE);
            due(x.had(2, 0, true), BAD);
        });
        sentence(31, "BAD: a ROUND", x -> {
            refused(Sentences::rich, BAD, y -> y.had(-1, 0, true), y -> y.had(3, 0, true), y -> y.had(3, 1, false),
                y -> y.had(SMALL, 0, true), y -> y.had(BIG, 0, true));
            due(x.had(0, 0, true), BAD);
            x.round(0, 0);
            due(x.had(0, 0, true), NONE);
        });
        sentence(31, "BAD: a PLAYER", x -> refused(Sentences::rich, BAD,
            y -> y.had(0, -1, true), y -> y.had(0, 2, true), y -> y.had(0, SMALL, false), y -> y.had(0, BIG, false)));
        sentence(31, "asked again it answers the same, and the others do", x -> {
            x.slate(4);
            rounds(x, 3);
            x.round(3, 1);
            due(x.had(0, 0, false), 0);
            due(x.had(3, 0, false), 3);
            due(x.had(1, 0, false), 1);
            due(x.had(0, 0, true), 1);
            due(x.fills(), 4);
            due(x.wrong(), NONE);
            due(x.had(2, 1, true), 1);
        });
    }

    private static void wrongs() {
        sentence(32, "NONE: no ROUNDS, no wrong ROUND", x -> {
            due(x.wrong(), NONE);
            x.slate(2);
            x.round(1, 0);
            due(x.wrong(), NONE);
            x.round(1, 1);
            due(x.wrong(), NONE);
        });
        sentence(32, "the first ROUND of all", x -> {
            x.slate(2);
            x.round(1, 1);
            due(x.wrong(), 0);
            x.round(0, 0);
            due(x.wrong(), 0);
        });
        sentence(32, "the last of 40", x -> {
            x.rule(1, 0, 1, 0);
            x.slate(21);
            for (int i = 0; i < 39; i++) {
                x.round(0, 0);
            }
            due(x.wrong(), NONE);
            x.round(2, 0);
            due(x.wrong(), 39);
            x.dispute(39, 0, true);
            due(x.wrong(), 39);
        });
        sentence(32, "the SLATE up to it: what comes behind does not count", x -> {
            x.slate(3);
            x.round(NONE, NONE);
            x.round(NONE, NONE);
            x.round(0, 0);
            x.round(NONE, NONE);
            due(x.wrong(), 2);
        });
        sentence(32, "a mark DISPUTED or no more, another RULE: it is found anew", x -> {
            x.rule(1, 0, 1, 0);
            x.slate(5);
            x.round(0, 0);
            x.round(0, 1);
            due(x.wrong(), NONE);
            x.rule(0, 0, 1, 2);
            due(x.wrong(), 0);
            x.dispute(0, 0, true);
            due(x.wrong(), 1);
            x.dispute(1, 0, true);
            due(x.wrong(), NONE);
            x.dispute(0, 0, false);
            due(x.wrong(), 0);
        });
        sentence(32, "a ROUND behind the end", x -> {
            x.slate(1);
            rounds(x, 2);
            due(x.wrong(), 1);
        });
    }

    private static void hearing() {
        sentence(33, "beats 0 .. 1000; who scored, NONE: none", x -> {
            due(x.heard(0, 0, NONE), 1);
            due(x.heard(1000, 1000, 0), 2);
            due(x.heard(0, 1000, 1), 3);
            due(x.heard(1000, 0, 1), 4);
            due(x.lates(0, 0), 3);
        });
        sentence(33, "BAD: beats", x -> refused(Sentences::rich, BAD, y -> y.heard(-1, 0, 0), y -> y.heard(0, -1, 0),
            y -> y.heard(1001, 0, 0), y -> y.heard(0, 1001, 0), y -> y.heard(SMALL, 0, 0), y -> y.heard(0, BIG, 0)));
        sentence(33, "BAD: who scored", x -> refused(Sentences::rich, BAD,
            y -> y.heard(0, 0, -2), y -> y.heard(0, 0, 2), y -> y.heard(0, 0, SMALL), y -> y.heard(0, 0, BIG)));
        sentence(33, "60 at most: FULL", x -> {
            for (int i = 1; i <= 60; i++) {
                due(x.heard(i, 0, i % 2), i);
            }
            due(x.heard(0, 0, 0), FULL);
            due(x.count(5), 60);
        });
        sentence(33, "FULL changes nothing", x -> refused(SlateSentencesTest::richAndFull, FULL,
            y -> y.heard(0, 0, NONE), y -> y.heard(1000, 0, 0), y -> y.heard(0, 1000, 1)));
        sentence(33, "BAD ahead of FULL", x -> refused(SlateSentencesTest::richAndFull, BAD,
            y -> y.heard(1001, 0, 0), y -> y.heard(0, -1, 0), y -> y.heard(0, 0, 2)));
        sentence(34, "0 .. 1000: what it was", x -> {
            due(x.beat(0), 100);
            due(x.beat(1000), 0);
            due(x.beat(1000), 1000);
            due(x.beat(100), 1000);
            due(x.count(9), 100);
        });
        sentence(34, "BAD", x -> refused(Sentences::rich, BAD,
            y -> y.beat(-1), y -> y.beat(1001), y -> y.beat(SMALL), y -> y.beat(BIG)));
        sentence(34, "LATE: above the other's by more than it", x -> {
            x.heard(400, 300, 0);
            x.heard(300, 401, 1);
            due(x.lates(0, 1), 0);
            due(x.lates(1, 1), 1);
            x.beat(99);
            due(x.lates(0, 1), 1);
            due(x.lates(1, 1), 1);
            x.beat(101);
            due(x.lates(0, 1), 0);
            due(x.lates(1, 1), 0);
        });
        sentence(34, "THE BEAT 0 and the greatest", x -> {
            x.heard(5, 5, 0);
            x.heard(6, 5, 0);
            x.heard(1000, 0, 0);
            x.beat(0);
            due(x.lates(0, 1), 2);
            due(x.lates(1, 1), 0);
            x.beat(999);
            due(x.lates(0, 1), 1);
            x.beat(1000);
            due(x.lates(0, 1), 0);
        });
    }

    private static void lateThrows() {
        sentence(35, "N, K, W, w: of ROUNDS with a score alone", x -> {
            x.heard(500, 0, NONE);
            for (int what = 0; what <= 3; what++) {
                due(x.lates(0, what), 0);
                due(x.lates(1, what), 0);
            }
            x.heard(500, 0, 0);
            x.heard(500, 0, 1);
            x.heard(0, 0, 0);
            int[] first = {3, 2, 2, 1}, second = {3, 0, 1, 0};
            for (int what = 0; what <= 3; what++) {
                due(x.lates(0, what), first[what]);
                due(x.lates(1, what), second[what]);
            }
        });
        sentence(35, "BAD", x -> refused(Sentences::rich, BAD, y -> y.lates(-1, 0), y -> y.lates(2, 0), y -> y.lates(0, -1),
            y -> y.lates(0, 4), y -> y.lates(BIG, 0), y -> y.lates(1, SMALL)));
        sentence(36, "nothing HEARD, never LATE, never scored: 1", x -> {
            due(x.late(0), 0);
            fraction(x, 1, 1);
            x.heard(0, 0, 1);
            due(x.late(0), 0);
            fraction(x, 1, 1);
            x.silence();
            x.heard(500, 0, 1);
            x.chance(1, 1);
            due(x.late(0), 0);
            fraction(x, 1, 1);
        });
        sentence(36, "w or more of W among K of N", x -> {
            x.heard(500, 0, 0);
            x.heard(500, 0, 0);
            x.heard(0, 0, 1);
            x.heard(0, 0, 1);
            x.late(0);
            fraction(x, 1, 6);
            x.silence();
            x.heard(500, 0, 0);
            x.heard(500, 0, 1);
            x.heard(0, 0, 0);
            x.heard(0, 0, 1);
            x.late(0);
            fraction(x, 5, 6);
        });
        sentence(36, "W and K need not be alike", x -> {
            int[][] heard = {{500, 0}, {500, 0}, {0, 0}, {0, 1}, {0, 1}};
            for (int[] h : heard) {
                x.heard(h[0], 0, h[1]);
            }
            // all 2 among which he was LATE are of the 3 at which he scored
            x.late(0);
            fraction(x, 3, 10);
            x.silence();
            int[][] other = {{500, 0}, {500, 0}, {500, 1}, {0, 1}, {0, 1}};
            for (int[] h : other) {
                x.heard(h[0], 0, h[1]);
            }
            x.late(0);
            fraction(x, 3, 10);
            x.silence();
            int[][] third = {{500, 0}, {500, 1}, {500, 1}, {0, 0}, {0, 1}};
            for (int[] h : third) {
                x.heard(h[0], 0, h[1]);
            }
            x.late(0);
            fraction(x, 9, 10);
        });
        sentence(36, "it times ODDS is no more than 1: 1 is, more is not", x -> {
            x.heard(500, 0, 0);
            x.heard(500, 0, 0);
            x.heard(0, 0, 1);
            x.heard(0, 0, 1);
            x.odds(5);
            due(x.late(0), 1);
            x.odds(6);
            due(x.late(0), 1);
            x.odds(7);
            due(x.late(0), 0);
            fraction(x, 1, 6);
            x.silence();
            x.odds(1);
            due(x.late(0), 1);
            x.odds(2);
            due(x.late(0), 0);
        });
        sentence(36, "the greatest ODDS: 9 of 19, 10 of 20", x -> {
            x.odds(100000);
            for (int i = 0; i < 19; i++) {
                x.heard(i < 9 ? 500 : 0, 0, i < 9 ? 0 : 1);
            }
            due(x.late(0), 0);
            fraction(x, 1, 92378);
            x.heard(500, 0, 0);
            due(x.late(0), 1);
            fraction(x, 1, 184756);
        });
        sentence(36, "60 ROUNDS, half of them", x -> {
            for (int i = 0; i < 60; i++) {
                x.heard(i < 30 ? 500 : 0, 0, i % 2);
            }
            due(x.late(0), 0);
            // w is 15: a half and half of the chance of 15 itself
            BigInteger half = choose(30, 15), all = choose(60, 30);
            Ratio want = new Ratio(all.add(half.multiply(half)), all.add(all));
            due(read(x).compareTo(want), 0);
        });
        sentence(36, "BAD", x -> refused(Sentences::rich, BAD, y -> y.late(-1), y -> y.late(2), y -> y.late(SMALL), y -> y.late(BIG)));
        sentence(37, "what was HEARD goes: how many, of nothing none", x -> {
            due(x.silence(), 0);
            x.heard(1, 2, 0);
            due(x.silence(), 1);
            due(x.silence(), 0);
            due(x.lates(0, 0), 0);
        });
        sentence(37, "a full one goes and can be filled again; THE BEAT stays", x -> {
            x.beat(7);
            for (int i = 0; i < 60; i++) {
                x.heard(0, 0, 0);
            }
            due(x.silence(), 60);
            due(x.heard(8, 0, 1), 1);
            due(x.count(9), 7);
            due(x.lates(0, 1), 1);
        });
    }

    private static BigInteger choose(int n, int k) {
        BigInteger all = BigInteger.ONE;
        for (int i = 0; i < k; i++) {
            all = all.multiply(BigInteger.valueOf(n - i)).divide(BigInteger.valueOf(i + 1));
        }
        return all;
    }

    public static void main(String[] args) {
        slates();
        marks();
        disputes();
        fillsByRule();
        fillsToTheEnd();
        hads();
        wrongs();
        hearing();
        lateThrows();
        end();
    }
}
