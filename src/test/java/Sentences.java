import java.math.BigInteger;
import java.util.ArrayList;
import java.util.List;

/** What the tests of single sentences share: a new object for each sentence, and twins for refused calls. */
abstract class Sentences {
    static final int BIG = Integer.MAX_VALUE, SMALL = Integer.MIN_VALUE;
    static final int NONE = FlungFingers.NONE, BAD = FlungFingers.BAD, NO = FlungFingers.NO, FULL = FlungFingers.FULL;
    static final int FAR_BAD = -100, FAR_NO = -200, FAR_NONE = -300;
    private static int wrong, told;
    private static String now = "";

    interface Story {
        void on(FlungFingers x);
    }

    interface Call {
        long on(FlungFingers x);
    }

    /** One sentence of one promise, tried on a new object. */
    static void sentence(int promise, String words, Story test) {
        now = "promise " + promise + ": " + words;
        told++;
        try {
            test.on(new FlungFingers());
        } catch (RuntimeException e) {
            fault(e.toString());
        }
    }

    static void due(long got, long want) {
        if (got != want) {
            fault("answered " + got + ", due is " + want);
        }
    }

    static void holds(boolean is) {
        due(is ? 1 : 0, 1);
    }

    private static void fault(String what) {
        wrong++;
        StringBuilder lines = new StringBuilder();
        for (StackTraceElement e : new Throwable().getStackTrace()) {
            if (e.getClassName().endsWith("Test") && !e.getMethodName().equals("main")) {
                lines.append(" ").append(e.getFileName()).append(":").append(e.getLineNumber());
            }
        }
        System.out.println(now + ": " + what + lines);
    }

    /** Each call is refused with this answer, after which the object answers as its twin without the call. */
    static void refused(Story history, long want, Call... calls) {
        for (Call call : calls) {
            FlungFingers x = new FlungFingers(), twin = new FlungFingers();
            history.on(x);
            history.on(twin);
            due(call.on(x), want);
            List<Long> got = look(x), wanted = look(twin);
            for (int i = 0; i < wanted.size(); i++) {
                if (!got.get(i).equals(wanted.get(i))) {
                    fault("the refused call changed something: look " + i + " is " + got.get(i) + ", was " + wanted.get(i));
                    break;
                }
            }
        }
    }

    /** What can be seen of an object, by some 170 calls of which the last ones change it. */
    private static List<Long> look(FlungFingers x) {
        List<Long> all = new ArrayList<>();
        all.add(x.digest());
        lookAtFraction(x, all);
        lookAtResults(x, all);
        for (int what = 0; what <= 11; what++) {
            all.add((long) x.count(what));
        }
        all.add(x.fills());
        all.add((long) x.wrong());
        for (int player = 0; player <= 1; player++) {
            all.add((long) x.had(0, player, false));
            all.add((long) x.had(0, player, true));
            all.add((long) x.late(player));
            all.add(x.millionths());
            for (int what = 0; what <= 3; what++) {
                all.add((long) x.lates(player, what));
            }
        }
        for (int man = 0; man <= 3; man++) {
            all.add((long) x.tried(man));
            all.add((long) x.told(man));
            all.add((long) x.toldAt(man, 0));
            all.add((long) x.foreseen(man));
            all.add((long) x.foreseenAt(man, 1));
            all.add((long) x.answer(man, 10));
        }
        all.add((long) x.value());
        all.add((long) x.steps());
        lookByChanges(x, all);
        return all;
    }

    private static void lookAtFraction(FlungFingers x, List<Long> all) {
        all.add((long) x.sign());
        all.add(x.millionths());
        for (int part = 0; part <= 1; part++) {
            all.add((long) x.limbs(part));
            for (int i = 0; i < 10; i++) {
                all.add((long) x.limb(part, i));
            }
        }
    }

    private static void lookAtResults(FlungFingers x, List<Long> all) {
        for (int i = 0; i < 10; i++) {
            all.add((long) x.how(i));
        }
    }

    /** The LEFT games are seen by playing them, what is full by adding to it. */
    private static void lookByChanges(FlungFingers x, List<Long> all) {
        for (int team = 0; team <= 5; team++) {
            all.add((long) x.can(team));
        }
        lookAtResults(x, all);
        for (int i = 0; i < 10; i++) {
            all.add((long) x.next(1, 0));
        }
        for (int team = 0; team <= 5; team++) {
            all.add((long) x.has(team));
        }
        for (int man = 0; man <= 3; man++) {
            all.add((long) x.flung(man, 1));
        }
        all.add((long) x.played(0, 1, 1, 0));
        all.add((long) x.round(NONE, NONE));
        all.add((long) x.heard(1, 2, 0));
        all.add((long) x.odds(3));
        all.add((long) x.beat(4));
        all.add(x.digest());
    }

    /** Something of everything is noted; THE FRACTION has two limbs. */
    static void rich(FlungFingers x) {
        x.rule(1, 0, 2, 0);
        x.odds(2);
        x.beat(50);
        fling(x, 0, "0120120120120120120120120");
        fling(x, 3, "21");
        x.slate(5);
        x.round(1, 0);
        x.round(NONE, 0);
        x.round(1, NONE);
        x.dispute(0, 0, true);
        x.dispute(2, 0, true);
        x.heard(500, 300, 0);
        x.heard(300, 400, 1);
        x.heard(310, 300, 1);
        x.heard(0, 1000, NONE);
        x.played(0, 1, 5, 3);
        x.played(2, 1, 2, 2);
        x.left(1, 2);
        x.left(2, 0);
        x.left(3, 4);
        x.can(2);
        x.tail(0, 0, 0, 2);
    }

    /** As rich, but a RULE of SUM. */
    static void richOfSum(FlungFingers x) {
        rich(x);
        x.rule(2, 0, 2, 0);
        fling(x, 0, "2222222222222222");
        x.mix(0, 2);
    }

    static void fling(FlungFingers x, int man, String fingers) {
        for (char c : fingers.toCharArray()) {
            x.flung(man, c - '0');
        }
    }

    /** The same throw again and again. */
    static void flingAll(FlungFingers x, int man, int fingers, int times) {
        for (int i = 0; i < times; i++) {
            x.flung(man, fingers);
        }
    }

    static void rounds(FlungFingers x, int times) {
        for (int i = 0; i < times; i++) {
            x.round(NONE, NONE);
        }
    }

    static Ratio read(FlungFingers x) {
        BigInteger[] parts = {BigInteger.ZERO, BigInteger.ZERO};
        for (int part = 0; part < 2; part++) {
            for (int i = x.limbs(part) - 1; i >= 0; i--) {
                parts[part] = parts[part].shiftLeft(30).add(BigInteger.valueOf(x.limb(part, i)));
            }
        }
        return new Ratio(x.sign() < 0 ? parts[0].negate() : parts[0], parts[1]);
    }

    /** THE FRACTION is this one, which is written in lowest terms, of one limb each. */
    static void fraction(FlungFingers x, int above, int below) {
        due(x.sign(), Integer.signum(above));
        due(x.limbs(0), above == 0 ? 0 : 1);
        due(x.limb(0, 0), above == 0 ? NONE : Math.abs(above));
        due(x.limbs(1), 1);
        due(x.limb(1, 0), below);
    }

    static void end() {
        System.out.println(wrong == 0 ? told + " sentences hold" : wrong + " answers are not as due");
        if (wrong != 0) {
            System.exit(1);
        }
    }
}
