/** Promises 1 to 8, sentence by sentence where they name an edge: new objects, RULES, WAYS, games. */
public final class RulesSentencesTest extends Sentences {
    private static void newObjects() {
        sentence(1, "at first MULTIPLES of 2 with 1 .. 2", x -> {
            due(x.count(0), 0);
            due(x.count(1), 1);
            due(x.count(2), 2);
            due(x.count(3), 2);
            due(x.count(11), 2);
            due(x.way(0, 0), 1);
            due(x.way(1, 0), 2);
            due(x.way(2, 0), FAR_BAD);
            due(x.way(0, 1), NONE);
            due(x.pay(0, 0), 1);
            due(x.pay(0, 1), -1);
            due(x.pay(1, 0), -1);
            due(x.pay(1, 1), 1);
        });
        sentence(1, "ODDS 20, THE BEAT 100, p 1 at first", x -> {
            due(x.count(8), 20);
            due(x.count(9), 100);
            due(x.count(10), 1);
            due(x.odds(1), 20);
            due(x.beat(1), 100);
        });
        sentence(1, "nothing noted", x -> {
            for (int man = 0; man < 4; man++) {
                due(x.comes(man, 0, 0, NONE), 0);
                due(x.tried(man), 0);
                due(x.told(man), 0);
                due(x.foreseen(man), NONE);
                due(x.forget(man), 0);
            }
            for (int what = 4; what <= 7; what++) {
                due(x.count(what), 0);
            }
            for (int team = 0; team < 6; team++) {
                due(x.has(team), 0);
            }
            due(x.fills(), 1);
            due(x.wrong(), NONE);
            due(x.silence(), 0);
            due(x.how(0), NONE);
        });
        sentence(1, "the digest of what is noted at first", x -> {
            long h = 257;
            for (int v : new int[] {0, 1, 2, 2, 0, 0, 0, 0, 20, 100, 1, 2, 0, 0, 0, 0, 0, 0, 0, 0, 0, 0}) {
                h = 31 * h + v;
            }
            due(x.digest(), h);
        });
        sentence(1, "THE FRACTION is 0 by 1", x -> {
            fraction(x, 0, 1);
            due(x.millionths(), 0);
        });
        sentence(1, "a new object has nothing of an older one", x -> {
            rich(x);
            long rich = x.digest();
            FlungFingers y = new FlungFingers();
            due(y.digest(), new FlungFingers().digest());
            fraction(y, 0, 1);
            due(y.how(0), NONE);
            due(x.digest(), rich);
        });
    }

    private static void rules() {
        sentence(2, "l 0, 1; f l + 1 .. 4: all of these", x -> {
            for (int kind = 0; kind <= 2; kind++) {
                for (int l = 0; l <= 1; l++) {
                    for (int f = l + 1; f <= 4; f++) {
                        int n = f - l + 1;
                        due(x.rule(kind, l, f, 2), kind == 0 ? n : n * n);
                        due(x.count(0), kind);
                        due(x.count(1), l);
                        due(x.count(2), f);
                        due(x.count(3), kind == 0 ? n : n * n);
                    }
                }
            }
        });
        sentence(2, "KIND 0, 1, 2 and no other", x -> refused(Sentences::rich, BAD,
            y -> y.rule(-1, 0, 1, 2), y -> y.rule(3, 0, 1, 2), y -> y.rule(SMALL, 0, 1, 2), y -> y.rule(BIG, 0, 1, 2)));
        sentence(2, "l 0, 1 and no other", x -> refused(Sentences::rich, BAD,
            y -> y.rule(0, -1, 1, 2), y -> y.rule(1, -1, 1, 2), y -> y.rule(2, -1, 0, 2), y -> y.rule(0, 2, 3, 2),
            y -> y.rule(1, 2, 4, 2), y -> y.rule(2, 2, 3, 2), y -> y.rule(2, BIG, SMALL, 2), y -> y.rule(2, SMALL, 1, 2)));
        sentence(2, "f l + 1 at least", x -> refused(Sentences::rich, BAD,
            y -> y.rule(0, 0, 0, 2), y -> y.rule(0, 1, 1, 2), y -> y.rule(1, 0, 0, 2), y -> y.rule(1, 1, 1, 2),
            y -> y.rule(2, 0, 0, 2), y -> y.rule(2, 1, 1, 2), y -> y.rule(2, 1, 0, 2), y -> y.rule(2, 0, SMALL, 2)));
        sentence(2, "f 4 at most", x -> refused(Sentences::rich, BAD,
            y -> y.rule(0, 0, 5, 2), y -> y.rule(0, 1, 5, 2), y -> y.rule(1, 0, 5, 2), y -> y.rule(1, 1, 5, 2),
            y -> y.rule(2, 0, 5, 2), y -> y.rule(2, 1, 5, 2), y -> y.rule(2, 0, BIG, 2)));
        sentence(2, "m 2 .. 5", x -> {
            for (int m = 2; m <= 5; m++) {
                due(x.rule(0, 0, 4, m), 5);
                due(x.count(11), m);
            }
        });
        sentence(2, "m no less than 2, no more than 5, of MULTIPLES", x -> refused(Sentences::rich, BAD,
            y -> y.rule(0, 0, 4, 1), y -> y.rule(0, 0, 4, 6), y -> y.rule(0, 0, 4, 0), y -> y.rule(0, 0, 4, SMALL),
            y -> y.rule(0, 0, 4, BIG)));
        sentence(2, "m looked at by MULTIPLES alone", x -> {
            for (int kind = 1; kind <= 2; kind++) {
                for (int m : new int[] {SMALL, -1, 0, 1, 2, 5, 6, BIG}) {
                    due(x.rule(kind, 1, 2, m), 4);
                    due(x.count(11), 0);
                }
            }
        });
        rulesAndWhatIsNoted();
    }

    private static void rulesAndWhatIsNoted() {
        sentence(2, "ROWS of all MEN go, full ones too", x -> {
            flingAll(x, 0, 1, 120);
            fling(x, 1, "12");
            fling(x, 2, "1");
            fling(x, 3, "2121");
            x.rule(1, 1, 2, 0);
            for (int man = 0; man < 4; man++) {
                due(x.comes(man, 0, 0, NONE), 0);
                due(x.flung(man, 2), 1);
                due(x.comes(man, 0, 0, 2), 1);
                due(x.comes(man, 0, 0, 1), 0);
            }
        });
        sentence(2, "ROWS go by the RULE that is there already", x -> {
            fling(x, 1, "12");
            due(x.rule(0, 1, 2, 2), 2);
            due(x.forget(1), 0);
        });
        sentence(2, "marks of the SLATE stay", x -> {
            x.slate(9);
            x.round(3, NONE);
            x.round(7, 60);
            x.dispute(0, 0, true);
            x.rule(2, 1, 4, 0);
            due(x.count(4), 2);
            due(x.count(10), 9);
            due(x.dispute(0, 1, false), NO);
            x.slate(9);
            x.round(3, 0);
            x.dispute(0, 0, true);
            due(x.had(0, 0, true), 4);
            x.rule(2, 0, 1, 0);
            due(x.fills(), 0);
            x.rule(2, 1, 4, 0);
            due(x.fills(), 2);
        });
        sentence(2, "all else stays: ODDS, THE BEAT, HEARD ROUNDS, the LEAGUE, THE FRACTION", x -> {
            rich(x);
            Ratio was = read(x);
            x.rule(0, 0, 4, 5);
            due(read(x).compareTo(was), 0);
            int[] want = {0, 0, 4, 5, 3, 4, 2, 3, 2, 50, 5, 5};
            for (int what = 0; what < 12; what++) {
                due(x.count(what), want[what]);
            }
            due(x.how(2), 0);
            due(x.has(0), 2);
        });
    }

    private static void ways() {
        sentence(3, "of MULTIPLES the throws, rising", x -> {
            x.rule(0, 0, 4, 2);
            for (int i = 0; i < 5; i++) {
                due(x.way(i, 0), i);
                due(x.way(i, 1), NONE);
            }
        });
        sentence(3, "throws rising, with each its calls rising, from his throw and l to his throw and f", x -> {
            for (int kind = 1; kind <= 2; kind++) {
                for (int l = 0; l <= 1; l++) {
                    x.rule(kind, l, 4, 0);
                    int i = 0;
                    for (int thrown = l; thrown <= 4; thrown++) {
                        for (int call = thrown + l; call <= thrown + 4; call++) {
                            due(x.way(i, 0), thrown);
                            due(x.way(i, 1), call);
                            i++;
                        }
                    }
                    due(x.count(3), i);
                }
            }
        });
        sentence(3, "BAD: -100: i", x -> {
            refused(Sentences::rich, FAR_BAD, y -> y.way(-1, 0), y -> y.way(9, 0), y -> y.way(-1, 1), y -> y.way(9, 1),
                y -> y.way(SMALL, 0), y -> y.way(BIG, 0));
            for (int kind = 0; kind <= 2; kind++) {
                for (int f = 1; f <= 4; f++) {
                    int ways = x.rule(kind, 0, f, 2);
                    due(x.way(ways - 1, 0), f);
                    due(x.way(ways, 0), FAR_BAD);
                }
            }
        });
        sentence(3, "BAD: -100: what", x -> refused(Sentences::rich, FAR_BAD,
            y -> y.way(0, -1), y -> y.way(0, 2), y -> y.way(8, 2), y -> y.way(0, SMALL), y -> y.way(0, BIG)));
    }

    private static void pays() {
        sentence(4, "0 is a multiple", x -> {
            for (int m = 2; m <= 5; m++) {
                x.rule(0, 0, 1, m);
                due(x.pay(0, 0), 1);
                due(x.pay(0, 1), -1);
                due(x.pay(1, 1), m == 2 ? 1 : -1);
            }
        });
        sentence(4, "PLAYER 0 scores one if both throws together are a multiple of m, else PLAYER 1", x -> {
            for (int m = 2; m <= 5; m++) {
                x.rule(0, 1, 4, m);
                for (int i = 0; i < 4; i++) {
                    for (int j = 0; j < 4; j++) {
                        due(x.pay(i, j), (i + j + 2) % m == 0 ? 1 : -1);
                    }
                }
            }
        });
        sentence(4, "who alone is right scores one", x -> {
            x.rule(1, 1, 2, 0);
            // WAYS: 1 calling 2, 1 calling 3, 2 calling 3, 2 calling 4
            int[][] want = {{0, 1, -1, 0}, {-1, 0, 0, 1}, {1, 0, 0, -1}, {0, -1, 1, 0}};
            for (int i = 0; i < 4; i++) {
                for (int j = 0; j < 4; j++) {
                    due(x.pay(i, j), want[i][j]);
                }
            }
        });
        sentence(4, "of SUM the sum: 0 at least, 8 at most", x -> {
            x.rule(2, 0, 4, 0);
            due(x.pay(0, 1), 0);
            due(x.pay(1, 0), 0);
            due(x.pay(24, 20), 8);
            due(x.pay(20, 24), -8);
            due(x.pay(24, 24), 0);
            due(x.pay(20, 20), 0);
            due(x.pay(1, 5), 0);
            due(x.pay(1, 6), 1);
            due(x.pay(0, 5), -1);
        });
        sentence(4, "BAD: -100", x -> {
            refused(Sentences::rich, FAR_BAD, y -> y.pay(-1, 0), y -> y.pay(0, -1), y -> y.pay(9, 0), y -> y.pay(0, 9),
                y -> y.pay(SMALL, 0), y -> y.pay(0, BIG), y -> y.pay(9, -1));
            for (int kind = 0; kind <= 2; kind++) {
                for (int f = 2; f <= 4; f++) {
                    int ways = x.rule(kind, 1, f, 2);
                    holds(x.pay(ways - 1, ways - 1) != FAR_BAD);
                    due(x.pay(ways, 0), FAR_BAD);
                    due(x.pay(0, ways), FAR_BAD);
                }
            }
        });
    }

    private static void values() {
        sentence(5, "its sign (-1, 0, 1): below 0", x -> {
            x.rule(0, 1, 2, 5);
            due(x.value(), -1);
            fraction(x, -1, 1);
            x.rule(0, 0, 4, 5);
            due(x.value(), -1);
            fraction(x, -3, 5);
            x.rule(0, 0, 3, 4);
            due(x.value(), -1);
            fraction(x, -1, 2);
            x.rule(0, 1, 3, 3);
            due(x.value(), -1);
            fraction(x, -1, 3);
        });
        sentence(5, "its sign (-1, 0, 1): 0, which is 0 by 1", x -> {
            for (int kind = 0; kind <= 2; kind++) {
                for (int l = 0; l <= 1; l++) {
                    for (int f = l + 1; f <= 4; f++) {
                        x.rule(kind, l, f, 2);
                        due(x.value(), 0);
                        fraction(x, 0, 1);
                    }
                }
            }
        });
        sentence(5, "the RULE of now is worked, not the one before", x -> {
            x.rule(0, 0, 2, 3);
            due(x.value(), -1);
            x.rule(0, 0, 2, 2);
            due(x.value(), 0);
            x.rule(0, 0, 2, 3);
            due(x.value(), -1);
            fraction(x, -1, 3);
            due(x.rule(0, 0, 2, 6), BAD);
            due(x.value(), -1);
        });
    }

    private static void mixes() {
        sentence(6, "whether it is above 0: it is, or it is 0 by 1", x -> {
            x.rule(0, 1, 2, 5);
            due(x.mix(0, 0), 1);
            fraction(x, 1, 1);
            due(x.mix(0, 1), 0);
            fraction(x, 0, 1);
            due(x.mix(1, 0), 1);
            fraction(x, 1, 1);
            due(x.mix(1, 1), 0);
            fraction(x, 0, 1);
        });
        sentence(6, "of like rows that whose IN column comes first", x -> {
            // worked by hand: row 0 comes twice, by the WAYS 0 and 1
            x.rule(0, 0, 1, 3);
            due(x.mix(1, 0), 0);
            due(x.mix(1, 1), 1);
            fraction(x, 1, 1);
            due(x.mix(0, 0), 1);
            due(x.mix(0, 1), 0);
        });
        sentence(6, "THE MIX of the RULE of now, of both PLAYERS", x -> {
            x.rule(1, 1, 2, 0);
            due(x.mix(0, 1), 1);
            due(x.mix(1, 1), 1);
            x.rule(0, 1, 2, 5);
            due(x.mix(0, 1), 0);
            due(x.mix(1, 1), 0);
            due(x.mix(1, 0), 1);
        });
        sentence(6, "BAD: a PLAYER", x -> refused(Sentences::rich, BAD,
            y -> y.mix(-1, 0), y -> y.mix(2, 0), y -> y.mix(SMALL, 0), y -> y.mix(BIG, 0)));
        sentence(6, "BAD: a WAY", x -> {
            refused(Sentences::rich, BAD,
                y -> y.mix(0, -1), y -> y.mix(0, 9), y -> y.mix(1, -1), y -> y.mix(1, 9), y -> y.mix(1, BIG), y -> y.mix(0, SMALL));
            for (int kind = 0; kind <= 2; kind++) {
                int ways = x.rule(kind, 0, 4, 3);
                holds(x.mix(0, ways - 1) >= 0);
                holds(x.mix(1, ways - 1) >= 0);
                due(x.mix(0, ways), BAD);
                due(x.mix(1, ways), BAD);
            }
        });
    }

    private static void bringsAsMixed(int kind, int player) {
        FlungFingers x = new FlungFingers();
        int ways = x.rule(kind, 1, 3, 3);
        Ratio[] mix = new Ratio[ways];
        for (int k = 0; k < ways; k++) {
            x.mix(player, k);
            mix[k] = read(x);
        }
        for (int i = 0; i < ways; i++) {
            Ratio all = Ratio.ZERO;
            for (int k = 0; k < ways; k++) {
                all = all.plus(mix[k].times(Ratio.of(player == 0 ? x.pay(k, i) : x.pay(i, k))));
            }
            due(x.brings(player, i), all.sign());
            due(read(x).compareTo(all), 0);
        }
    }

    private static void bringing() {
        sentence(7, "what THE MIX of a PLAYER brings PLAYER 0, its sign", x -> {
            x.rule(0, 0, 1, 3);
            // PLAYER 0 throws 0 always, PLAYER 1 throws 1 always
            due(x.brings(0, 0), 1);
            fraction(x, 1, 1);
            due(x.brings(0, 1), -1);
            fraction(x, -1, 1);
            due(x.brings(1, 0), -1);
            fraction(x, -1, 1);
            due(x.brings(1, 1), -1);
        });
        sentence(7, "what PLAYER 0 gets, by PAYS and THE MIX, whoever's it is", x -> {
            for (int kind = 0; kind <= 2; kind++) {
                for (int player = 0; player <= 1; player++) {
                    bringsAsMixed(kind, player);
                }
            }
            x.rule(2, 1, 2, 0);
            int above = 0, below = 0;
            for (int i = 0; i < 4; i++) {
                above += x.brings(0, i) > 0 ? 1 : 0;
                below += x.brings(1, i) < 0 ? 1 : 0;
            }
            due(above, 1);
            due(below, 1);
        });
        sentence(7, "a sign of 0: 0 by 1", x -> {
            due(x.brings(0, 0), 0);
            fraction(x, 0, 1);
            due(x.brings(1, 1), 0);
            fraction(x, 0, 1);
        });
        sentence(7, "BAD: -100: a PLAYER", x -> refused(Sentences::rich, FAR_BAD,
            y -> y.brings(-1, 0), y -> y.brings(2, 0), y -> y.brings(SMALL, 0), y -> y.brings(BIG, 0)));
        sentence(7, "BAD: -100: a WAY", x -> {
            refused(Sentences::rich, FAR_BAD, y -> y.brings(0, -1), y -> y.brings(0, 9), y -> y.brings(1, -1),
                y -> y.brings(1, 9), y -> y.brings(0, BIG), y -> y.brings(1, SMALL));
            for (int kind = 0; kind <= 2; kind++) {
                int ways = x.rule(kind, 1, 4, 3);
                holds(x.brings(0, ways - 1) >= -1);
                due(x.brings(0, ways), FAR_BAD);
                due(x.brings(1, ways), FAR_BAD);
            }
        });
    }

    private static void steps() {
        sentence(8, "one column came IN: all PAYS alike", x -> {
            x.rule(0, 1, 2, 5);
            due(x.steps(), 1);
        });
        sentence(8, "a row twice: two columns came IN", x -> {
            x.rule(0, 0, 1, 3);
            due(x.steps(), 2);
        });
        sentence(8, "steps() is asked again, by the RULE of now, and leaves THE FRACTION", x -> {
            due(x.steps(), 2);
            x.chance(1, 2);
            x.rule(1, 1, 2, 0);
            due(x.steps(), 4);
            due(x.steps(), 4);
            fraction(x, 3, 4);
        });
    }

    public static void main(String[] args) {
        newObjects();
        rules();
        ways();
        pays();
        values();
        mixes();
        bringing();
        steps();
        end();
    }
}
