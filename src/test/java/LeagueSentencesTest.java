/** Promises 38 to 45, sentence by sentence where they name an edge: leagues, counts, the digest. */
public final class LeagueSentencesTest extends Sentences {
    private static void playAll(FlungFingers x, int until) {
        for (int i = x.count(6); i < until; i++) {
            x.played(4, 5, 1, 1);
        }
    }

    /** 100 games played and 9 LEFT. */
    private static void richAndFull(FlungFingers x) {
        rich(x);
        playAll(x, 100);
        for (int i = 3; i < 9; i++) {
            x.left(i % 3, 3 + i % 3);
        }
    }

    /** 100 games played and none LEFT. */
    private static void richAndPlayed(FlungFingers x) {
        rich(x);
        x.next(1, 0);
        x.next(0, 1);
        x.next(1, 1);
        playAll(x, 100);
    }

    private static void playing() {
        sentence(38, "2 to who has more points, 1 each if alike; points 0 .. 100", x -> {
            due(x.played(0, 5, 100, 0), 1);
            due(x.has(0), 2);
            due(x.has(5), 0);
            due(x.played(5, 0, 0, 1), 1);
            due(x.has(0), 4);
            due(x.has(5), 0);
            due(x.played(5, 0, 100, 99), 1);
            due(x.has(5), 2);
            due(x.played(0, 5, 0, 0), 1);
            due(x.played(0, 5, 100, 100), 1);
            due(x.has(0), 6);
            due(x.has(5), 4);
            due(x.count(6), 5);
        });
        sentence(38, "BAD: TEAMS 0 .. 5", x -> refused(Sentences::rich, BAD, y -> y.played(-1, 0, 1, 0), y -> y.played(0, -1, 1, 0),
            y -> y.played(6, 0, 1, 0), y -> y.played(0, 6, 1, 0), y -> y.played(SMALL, 0, 1, 0), y -> y.played(0, BIG, 1, 0)));
        sentence(38, "BAD: also a TEAM with itself", x -> refused(Sentences::rich, BAD,
            y -> y.played(0, 0, 1, 0), y -> y.played(5, 5, 1, 1), y -> y.played(3, 3, 0, 100)));
        sentence(38, "BAD: points 0 .. 100", x -> refused(Sentences::rich, BAD, y -> y.played(0, 1, -1, 0), y -> y.played(0, 1, 0, -1),
            y -> y.played(0, 1, 101, 0), y -> y.played(0, 1, 0, 101), y -> y.played(0, 1, SMALL, 0), y -> y.played(0, 1, 0, BIG)));
        sentence(38, "100 games", x -> {
            for (int i = 1; i <= 100; i++) {
                due(x.played(0, 1, 1, 0), 1);
                due(x.count(6), i);
            }
            due(x.has(0), 200);
            due(x.played(0, 1, 1, 0), FULL);
            due(x.has(0), 200);
            due(x.count(6), 100);
        });
        sentence(38, "FULL changes nothing", x -> refused(LeagueSentencesTest::richAndFull, FULL,
            y -> y.played(0, 1, 1, 0), y -> y.played(4, 5, 0, 0)));
        sentence(38, "BAD ahead of FULL", x -> refused(LeagueSentencesTest::richAndFull, BAD,
            y -> y.played(6, 1, 1, 0), y -> y.played(1, 1, 1, 0), y -> y.played(0, 1, 101, 0)));
    }

    private static void leaving() {
        sentence(39, "9 at most: FULL", x -> {
            for (int i = 1; i <= 9; i++) {
                due(x.left(0, 5), i);
            }
            due(x.left(0, 5), FULL);
            due(x.left(1, 2), FULL);
            due(x.count(7), 9);
            due(x.next(1, 0), 8);
            due(x.left(1, 2), 9);
            due(x.left(1, 2), FULL);
        });
        sentence(39, "BAD: TEAMS 0 .. 5", x -> refused(Sentences::rich, BAD, y -> y.left(-1, 0), y -> y.left(0, -1), y -> y.left(6, 0),
            y -> y.left(0, 6), y -> y.left(SMALL, 0), y -> y.left(0, BIG)));
        sentence(39, "BAD: a TEAM with itself, as of games played", x -> refused(Sentences::rich, BAD,
            y -> y.left(0, 0), y -> y.left(5, 5)));
        sentence(39, "FULL changes nothing", x -> refused(LeagueSentencesTest::richAndFull, FULL, y -> y.left(0, 1), y -> y.left(5, 4)));
        sentence(39, "BAD ahead of FULL", x -> refused(LeagueSentencesTest::richAndFull, BAD,
            y -> y.left(0, 6), y -> y.left(-1, 0), y -> y.left(2, 2)));
        sentence(39, "a game is LEFT though 100 were played", x -> {
            playAll(x, 100);
            due(x.left(0, 1), 1);
        });
    }

    private static void nexts() {
        sentence(40, "the first LEFT game, then the second: how many are LEFT", x -> {
            x.left(0, 1);
            x.left(2, 3);
            x.left(4, 5);
            due(x.next(1, 0), 2);
            due(x.has(0), 2);
            due(x.next(0, 100), 1);
            due(x.has(3), 2);
            due(x.next(100, 100), 0);
            due(x.has(4), 1);
            due(x.has(5), 1);
            due(x.count(6), 3);
            due(x.next(0, 0), NO);
        });
        sentence(40, "BAD: points", x -> refused(Sentences::rich, BAD, y -> y.next(-1, 0), y -> y.next(0, -1), y -> y.next(101, 0),
            y -> y.next(0, 101), y -> y.next(SMALL, 0), y -> y.next(0, BIG)));
        sentence(40, "NO: none is LEFT", x -> {
            due(x.next(0, 0), NO);
            due(x.count(6), 0);
            refused(y -> {
                rich(y);
                y.next(1, 0);
                y.next(1, 0);
                y.next(1, 0);
            }, NO, y -> y.next(0, 0), y -> y.next(100, 100));
        });
        sentence(40, "FULL: the game stays LEFT", x -> {
            refused(LeagueSentencesTest::richAndFull, FULL, y -> y.next(0, 0), y -> y.next(100, 0));
            x.left(0, 1);
            x.left(2, 3);
            playAll(x, 99);
            due(x.next(1, 0), 1);
            due(x.next(1, 0), FULL);
            due(x.count(7), 1);
            due(x.has(2), 0);
        });
        sentence(40, "BAD ahead of NO", x -> {
            due(x.next(-1, 0), BAD);
            due(x.next(0, 101), BAD);
        });
        sentence(40, "BAD ahead of FULL", x -> refused(LeagueSentencesTest::richAndFull, BAD,
            y -> y.next(101, 0), y -> y.next(0, -1)));
        sentence(40, "NO ahead of FULL", x -> refused(LeagueSentencesTest::richAndPlayed, NO, y -> y.next(0, 0)));
    }

    private static void points() {
        sentence(41, "TEAMS 0 .. 5", x -> {
            x.played(0, 5, 1, 0);
            x.played(5, 4, 1, 1);
            int[] want = {2, 0, 0, 0, 1, 1};
            for (int team = 0; team <= 5; team++) {
                due(x.has(team), want[team]);
            }
        });
        sentence(41, "games that are LEFT bring nothing yet", x -> {
            x.left(0, 1);
            x.can(0);
            x.can(1);
            due(x.has(0), 0);
            due(x.has(1), 0);
        });
        sentence(41, "BAD", x -> refused(Sentences::rich, BAD, y -> y.has(-1), y -> y.has(6), y -> y.has(SMALL), y -> y.has(BIG)));
    }

    private static void firsts() {
        sentence(42, "none with more than it: alike is enough", x -> {
            for (int team = 0; team <= 5; team++) {
                due(x.can(team), 1);
            }
            x.played(0, 1, 1, 1);
            due(x.can(0), 1);
            due(x.can(1), 1);
            due(x.can(2), 0);
            x.left(2, 3);
            due(x.can(2), 1);
            due(x.can(3), 1);
            due(x.can(4), 0);
        });
        sentence(42, "no games LEFT: one point less is too little", x -> {
            x.played(0, 1, 1, 0);
            x.played(2, 3, 1, 1);
            due(x.can(0), 1);
            due(x.can(2), 0);
            due(x.can(1), 0);
        });
        sentence(42, "any result of a game between others may be too much", x -> {
            x.left(0, 1);
            due(x.can(0), 1);
            due(x.can(1), 1);
            due(x.can(2), 0);
        });
        sentence(42, "three results and no other", x -> {
            // 0 has 3 as 1 has, 2 none, 3 has 2: 1 must lose both of its games, by which 3 has 4
            x.played(0, 4, 1, 0);
            x.played(0, 4, 1, 1);
            x.played(1, 5, 1, 0);
            x.played(1, 5, 1, 1);
            x.played(3, 5, 1, 0);
            x.left(1, 2);
            x.left(1, 3);
            due(x.can(0), 0);
            due(x.can(1), 1);
            due(x.can(3), 1);
            due(x.how(0), 1);
            due(x.how(1), 2);
        });
        sentence(42, "all of 9 LEFT games must be won", x -> {
            for (int i = 0; i < 9; i++) {
                x.played(0, 1, 1, 0);
                x.left(2, 3);
            }
            due(x.can(2), 1);
            due(x.can(3), 1);
            x.played(0, 1, 1, 1);
            due(x.can(2), 0);
            due(x.can(0), 1);
        });
        sentence(42, "BAD", x -> refused(Sentences::rich, BAD, y -> y.can(-1), y -> y.can(6), y -> y.can(SMALL), y -> y.can(BIG)));
    }

    private static void results() {
        sentence(43, "0 the first won, 1 alike, 2 the second: the first such results, the first game changing last", x -> {
            for (int i = 0; i < 9; i++) {
                x.left(0, 1);
            }
            due(x.can(1), 1);
            int[] want = {0, 0, 0, 0, 1, 2, 2, 2, 2};
            for (int i = 0; i < 9; i++) {
                due(x.how(i), want[i]);
            }
            due(x.can(0), 1);
            for (int i = 0; i < 9; i++) {
                due(x.how(i), 0);
            }
            due(x.how(9), NONE);
        });
        sentence(43, "alike where it is enough", x -> {
            x.left(0, 1);
            due(x.can(1), 1);
            due(x.how(0), 1);
            x.played(0, 2, 1, 1);
            due(x.can(1), 1);
            due(x.how(0), 2);
        });
        sentence(43, "NONE: none did", x -> {
            due(x.how(0), NONE);
            x.left(0, 1);
            due(x.can(2), 0);
            due(x.how(0), NONE);
        });
        sentence(43, "NONE: not so many", x -> {
            x.left(0, 1);
            x.left(0, 1);
            x.can(0);
            due(x.how(1), 0);
            due(x.how(2), NONE);
            due(x.how(9), NONE);
            due(x.how(BIG), NONE);
            due(x.how(-1), NONE);
            due(x.how(SMALL), NONE);
        });
        sentence(43, "NONE: no game was LEFT at the latest can() that told 1", x -> {
            x.left(0, 1);
            x.can(0);
            due(x.how(0), 0);
            x.next(1, 0);
            due(x.how(0), 0);
            due(x.can(0), 1);
            due(x.how(0), NONE);
        });
        sentence(43, "a can() that tells 0 or is refused leaves it", x -> {
            x.left(0, 1);
            x.left(0, 1);
            due(x.can(1), 1);
            due(x.how(0), 0);
            due(x.how(1), 2);
            due(x.can(5), 0);
            due(x.can(6), BAD);
            due(x.how(0), 0);
            due(x.how(1), 2);
        });
        sentence(43, "games played since do not change it, nor do games LEFT since", x -> {
            x.left(0, 1);
            x.left(0, 1);
            x.can(1);
            x.left(2, 3);
            x.next(100, 0);
            x.played(0, 1, 1, 0);
            due(x.how(0), 0);
            due(x.how(1), 2);
            due(x.how(2), NONE);
        });
    }

    private static void counts() {
        sentence(44, "0 .. 11, each by what it counts", x -> {
            rich(x);
            int[] want = {1, 0, 2, 9, 3, 4, 2, 3, 2, 50, 5, 0};
            for (int what = 0; what <= 11; what++) {
                due(x.count(what), want[what]);
            }
        });
        sentence(44, "all that is full", x -> {
            x.rule(2, 0, 4, 5);
            x.slate(21);
            rounds(x, 40);
            for (int i = 0; i < 60; i++) {
                x.heard(0, 0, 0);
            }
            for (int i = 0; i < 9; i++) {
                x.left(0, 1);
            }
            playAll(x, 100);
            x.odds(100000);
            x.beat(1000);
            int[] want = {2, 0, 4, 25, 40, 60, 100, 9, 100000, 1000, 21, 0};
            for (int what = 0; what <= 11; what++) {
                due(x.count(what), want[what]);
            }
        });
        sentence(44, "m (0 of other KINDS)", x -> {
            due(x.count(11), 2);
            x.rule(0, 0, 1, 5);
            due(x.count(11), 5);
            x.rule(1, 0, 1, 5);
            due(x.count(11), 0);
            x.rule(2, 0, 1, 3);
            due(x.count(11), 0);
            x.rule(0, 0, 1, 3);
            due(x.count(11), 3);
        });
        sentence(44, "BAD", x -> refused(Sentences::rich, BAD, y -> y.count(-1), y -> y.count(12), y -> y.count(SMALL), y -> y.count(BIG)));
    }

    private static long fold(long start, int... values) {
        long h = start;
        for (int v : values) {
            h = 31 * h + v;
        }
        return h;
    }

    private static void digests() {
        sentence(45, "each v in its order; LOST is NONE, DISPUTED 1, 0", x -> {
            rich(x);
            long h = fold(257, 1, 0, 2, 9, 3, 4, 2, 3, 2, 50, 5, 0);
            h = fold(h, 25, 0, 1, 2, 0, 1, 2, 0, 1, 2, 0, 1, 2, 0, 1, 2, 0, 1, 2, 0, 1, 2, 0, 1, 2, 0);
            h = fold(h, 0, 0, 2, 2, 1);
            h = fold(h, 1, 0, 1, 0, NONE, 0, 0, 0, 1, NONE, 1, 0);
            h = fold(h, 500, 300, 0, 300, 400, 1, 310, 300, 1, 0, 1000, NONE);
            due(x.digest(), fold(h, 2, 1, 1, 0, 0, 0));
        });
        sentence(45, "whether each is DISPUTED: the second's alone", x -> {
            x.round(3, 4);
            x.dispute(0, 1, true);
            long h = fold(257, 0, 1, 2, 2, 1, 0, 0, 0, 20, 100, 1, 2);
            due(x.digest(), fold(h, 0, 0, 0, 0, 3, 4, 0, 1, 0, 0, 0, 0, 0, 0));
        });
        sentence(45, "whether each is DISPUTED: of each ROUND its own", x -> {
            x.round(3, 4);
            x.round(5, 6);
            x.round(7, 8);
            x.dispute(1, 1, true);
            x.dispute(2, 0, true);
            long h = fold(257, 0, 1, 2, 2, 3, 0, 0, 0, 20, 100, 1, 2);
            h = fold(h, 0, 0, 0, 0, 3, 4, 0, 0, 5, 6, 0, 1, 7, 8, 1, 0);
            due(x.digest(), fold(h, 0, 0, 0, 0, 0, 0));
        });
        sentence(45, "h wraps around as a long does: all that is full", x -> {
            long h = fold(257, 0, 1, 2, 2, 40, 60, 0, 0, 20, 100, 1, 2);
            flingAll(x, 0, 2, 120);
            h = fold(h, 120);
            for (int i = 0; i < 120; i++) {
                h = fold(h, 2);
            }
            h = fold(h, 0, 0, 0);
            for (int i = 0; i < 40; i++) {
                x.round(60, i);
                h = fold(h, 60, i, 0, 0);
            }
            for (int i = 0; i < 60; i++) {
                x.heard(1000, i, i % 2);
                h = fold(h, 1000, i, i % 2);
            }
            due(x.digest(), fold(h, 0, 0, 0, 0, 0, 0));
        });
        sentence(45, "what went is not in it", x -> {
            long was = x.digest();
            x.slate(1);
            flingAll(x, 1, 1, 9);
            x.heard(1, 1, 1);
            x.round(1, 1);
            x.forget(1);
            x.silence();
            x.slate(1);
            due(x.digest(), was);
        });
        sentence(45, "neither THE FRACTION nor what can() told is in it", x -> {
            x.left(0, 1);
            long was = x.digest();
            x.can(1);
            x.chance(1, 1);
            due(x.digest(), was);
            due(x.digest(), was);
        });
    }

    public static void main(String[] args) {
        playing();
        leaving();
        nexts();
        points();
        firsts();
        results();
        counts();
        digests();
        end();
    }
}
