/** Promises 9, 10, 11, 12, 27, 28: tapes led by the hand, looked at, held beside one another, counted. */
public final class TapesTest {
    private static final Due DUE = new Due("TapesTest");

    public static void main(String[] args) {
        tapes();
        leading();
        looking();
        apart();
        counting();
        DUE.end();
    }

    private static LedArms oneArm() {
        LedArms x = new LedArms();
        x.arm(5, 5);
        x.joint(0, 2, 0, 15, 2);
        x.joint(0, 1, 4, 8, 1);
        return x;
    }

    private static void tapes() {
        LedArms x = oneArm();
        x.arm(6, 6);
        DUE.is("tape of arm -1", x.tape(-1), -1);
        DUE.is("tape of arm 2", x.tape(2), -1);
        DUE.is("tape of an arm without joints", x.tape(1), -1);
        for (int i = 0; i < 10; i++) {
            DUE.is("tape " + i, x.tape(0), i);
        }
        DUE.is("an eleventh tape", x.tape(0), -1);
        DUE.is("ten tapes", x.count(1), 10);
        DUE.is("no ticks", x.about(9, 1), 0);
        DUE.is("its arm", x.about(9, 0), 0);
    }

    private static void leading() {
        LedArms x = oneArm();
        DUE.is("no such tape", x.lead(0, 64, 0), -1);
        x.tape(0);
        DUE.is("no such pose: joint 1 below its end", x.lead(0, 48, 0), -1);
        DUE.is("no such pose: joint 1 above its end", x.lead(0, 144, 0), -1);
        DUE.is("no such pose: a joint too many", x.lead(0, 64 + 256, 0), -1);
        DUE.is("no such pose: below 0", x.lead(0, -64, 0), -1);
        DUE.is("no such spray: -1", x.lead(0, 64, -1), -1);
        DUE.is("no such spray: 10", x.lead(0, 64, 10), -1);
        DUE.is("nothing was led", x.about(0, 1), 0);
        DUE.is("the first tick, anywhere", x.lead(0, 79, 9), 1);
        DUE.is("joint 0 by 3 at speed 2", x.lead(0, 76, 0), -1);
        DUE.is("joint 0 by 2", x.lead(0, 77, 0), 2);
        DUE.is("joint 1 by 2 at speed 1", x.lead(0, 109, 0), -1);
        DUE.is("both at once", x.lead(0, 91, 0), 3);
        DUE.is("no hop from 15 to 0", x.lead(0, 80, 0), -1);
        for (int i = 4; i <= 40; i++) {
            DUE.is("tick " + i, x.lead(0, 91, 1), i);
        }
        DUE.is("a tick too many", x.lead(0, 91, 1), -1);
        DUE.is("forty ticks", x.about(0, 1), 40);
        DUE.is("no such tape", x.lead(1, 91, 1), -1);
    }

    private static void looking() {
        LedArms x = oneArm();
        int t = Use.tape(x, 0, 7, 64, 66);
        String[] due = {"66", "7", "6414", "6414"};
        // directions 2 and 2 and 4: 5000 and 1414, 5000 and 1414; then -707, 707
        due[2] = Integer.toString(5000 + 1414 - 707);
        due[3] = Integer.toString(5000 + 1414 + 707);
        for (int what = 0; what < 4; what++) {
            DUE.same("look " + what, Use.look(x, t, 1, what), due[what]);
        }
        DUE.same("what 4", Use.look(x, t, 1, 4), "NoSuchElementException");
        DUE.same("what -1", Use.look(x, t, 0, -1), "NoSuchElementException");
        DUE.same("tick 2", Use.look(x, t, 2, 0), "IndexOutOfBoundsException");
        DUE.same("tick -1", Use.look(x, t, -1, 0), "IndexOutOfBoundsException");
        DUE.same("tape 1", Use.look(x, 1, 0, 0), "IndexOutOfBoundsException");
        DUE.same("tape -1", Use.look(x, -1, 0, 0), "IndexOutOfBoundsException");
        DUE.same("neither tick nor what", Use.look(x, t, 2, 9), "IndexOutOfBoundsException");
        DUE.same("neither tape nor what", Use.look(x, 10, 0, 9), "IndexOutOfBoundsException");
        DUE.is("about what 2", x.about(t, 2), -1);
        DUE.is("about what -1", x.about(t, -1), -1);
        DUE.is("about no tape", x.about(1, 0), -1);
        DUE.is("ticks", x.about(t, 1), 2);
        x.wear(0, 0, 0, 1, 0);
        DUE.same("wear does not change a tape", Use.look(x, t, 1, 2), due[2]);
    }

    private static void apart() {
        LedArms x = new LedArms();
        x.arm(5, 5);
        x.joint(0, 4, 0, 15, 3);
        x.arm(5, 6);
        x.joint(1, 4, 0, 15, 3);
        int a = Use.tape(x, 0, 0, 0, 0, 3, 3);
        int b = Use.tape(x, 1, 0, 0, 1, 4);
        int empty = x.tape(0);
        // tick 0: 0 and 1000; tick 1: 4000 and 3696, 0 and 1000 and 1532; tick 2: 1532 and 0, 3696 and 5000
        DUE.is("apart", x.apart(a, b, 0), 2532);
        DUE.is("where", x.apart(a, b, 1), 1);
        DUE.is("the other way", x.apart(b, a, 0), 2532);
        DUE.is("from itself", x.apart(a, a, 0), 0);
        DUE.is("from itself, the first tick", x.apart(a, a, 1), 0);
        DUE.is("an empty one", x.apart(a, empty, 0), -1);
        DUE.is("an empty one ahead", x.apart(empty, a, 1), -1);
        DUE.is("no such tape", x.apart(a, 3, 0), -1);
        DUE.is("no such tape ahead", x.apart(-1, a, 0), -1);
        DUE.is("no such what", x.apart(a, b, 2), -1);
        DUE.is("no such what", x.apart(a, b, -1), -1);
    }

    private static void counting() {
        LedArms x = new LedArms();
        x.arm(5, 5);
        x.joint(0, 4, 0, 15, 3);
        Use.tape(x, 0, 4, 0, 1, 2);
        Use.tape(x, 0, 3, 0, 0);
        x.tape(0);
        x.play(0, 0, 0);
        x.play(1, 0, 0);
        x.nozzle(30);
        int[] due = {1, 3, 5, 18, 3, 30};
        for (int i = 0; i < 6; i++) {
            DUE.is("count " + i, x.count(i), due[i]);
        }
        DUE.is("count 6", x.count(6), -1);
        DUE.is("count -1", x.count(-1), -1);
    }
}
