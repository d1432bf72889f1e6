/** Promises 18, 19, 20: following, where it stops, its way. */
public final class FollowTest {
    private static final Due DUE = new Due("FollowTest");

    public static void main(String[] args) {
        firstByNumbers();
        leastWay();
        stops();
        drifts();
        noSuch();
        manyPoses();
        DUE.end();
    }

    private static void firstByNumbers() {
        LedArms x = new LedArms();
        x.arm(7, 5);
        x.joint(0, 2, 0, 15, 1);
        x.arm(5, 5);
        x.joint(1, 2, 0, 15, 3);
        x.joint(1, 2, 0, 15, 3);
        x.tape(0);
        x.lead(0, 4, 7);
        x.lead(0, 4, 0);
        x.lead(0, 4, 9);
        // 7000 7000 by 0 and 4, or by 4 and 12
        DUE.is("follow", x.follow(0, 1, 0, 0), 1);
        DUE.same("the lesser number, spray as it is", Use.ticks(x, 1), "64:7 64:0 64:9");
        DUE.is("way", x.way(), 0);
        DUE.is("its arm", x.about(1, 0), 1);
        DUE.is("the other arm is as it was", x.about(0, 0), 0);
    }

    private static void leastWay() {
        LedArms x = new LedArms();
        x.arm(5, 5);
        x.joint(0, 2, 0, 15, 3);
        x.arm(5, 5);
        x.joint(1, 2, 0, 15, 3);
        int t = Use.tape(x, 0, 1, 5, 6, 7, 8, 7, 6);
        // within 766 in x and y each pose has its two neighbours: one step is enough, as late as can be
        DUE.is("follow", x.follow(t, 1, 0, 766), 1);
        DUE.is("way", x.way(), 1);
        DUE.same("late, and never back", Use.ticks(x, 1), "6:1 6:1 6:1 7:1 7:1 7:1");
        // the tip is just 766 away, not less
        DUE.is("a thousandth less", x.follow(t, 1, 0, 765), 2);
        DUE.is("way", x.way(), 3);
        // now 5 6, 5 6 7, 6 7, 8 alone, 6 7, 5 6 7: at speed 3 it may stay at 6 till it must be at 8
        DUE.same("ticks", Use.ticks(x, 2), "6:1 6:1 6:1 8:1 7:1 7:1");
    }

    private static void stops() {
        LedArms x = new LedArms();
        x.arm(5, 5);
        x.joint(0, 2, 0, 15, 3);
        x.arm(5, 5);
        x.joint(1, 2, 0, 15, 2);
        int t = Use.tape(x, 0, 1, 0, 2, 5, 5);
        DUE.is("too slow", x.follow(t, 1, 0, 0), -2);
        DUE.is("at tick 2", x.stop(), 2);
        DUE.is("no way yet", x.way(), -1);
        DUE.is("no tape", x.count(1), 1);
        DUE.is("the same arm", x.follow(t, 0, 0, 0), 1);
        DUE.is("didn't stop", x.stop(), -1);
        DUE.is("way", x.way(), 5);
        DUE.is("with a drift", x.follow(t, 0, 1, 0), -2);
        DUE.is("at tick 1", x.stop(), 1);
        DUE.is("the way stays", x.way(), 5);
        DUE.is("no such error", x.follow(t, 1, 0, -1), -1);
        DUE.is("the stop stays", x.stop(), 1);
        DUE.is("share leaves both", x.share(1, 0, 0), 4);
        DUE.is("the stop stays", x.stop(), 1);
        DUE.is("the way stays", x.way(), 5);
        LedArms y = new LedArms();
        y.arm(5, 5);
        y.joint(0, 6, 0, 15, 3);
        y.arm(5, 5);
        y.joint(1, 1, 0, 15, 3);
        DUE.is("far away", y.follow(Use.tape(y, 0, 1, 0), 1, 0, 2000), -2);
        DUE.is("at tick 0", y.stop(), 0);
    }

    private static void drifts() {
        LedArms x = new LedArms();
        x.arm(5, 5);
        x.joint(0, 2, 0, 15, 3);
        x.arm(5, 7);
        x.joint(1, 2, 0, 15, 3);
        // tip of 12 on arm 1 is 5000 5000, of 15 6848 less 766
        int t = Use.tape(x, 0, 1, 4, 4);
        // 5000 7000, then 5000 and 2000: arm 1 is 2 away at 12 4 0 8; 7000 7000 is its 0
        DUE.is("with drift 2000", x.follow(t, 1, 2000, 0), -2);
        DUE.is("tick 0 has no such pose", x.stop(), 0);
        DUE.is("with error 2000", x.follow(t, 1, 2000, 2000), 1);
        // tick 0: all poses; tick 1: x 5000 .. 9000: 12 .. 15, 0 .. 4
        DUE.same("ticks", Use.ticks(x, 1), "0:1 0:1");
        DUE.is("against it", x.follow(t, 1, -2000, 2000), 2);
        // tick 1: x 1000 .. 5000: 4 .. 12
        DUE.same("ticks", Use.ticks(x, 2), "4:1 4:1");
        DUE.is("from itself, a little off", x.follow(t, 0, -1, 1), 3);
        DUE.same("ticks", Use.ticks(x, 3), "4:1 4:1");
    }

    private static void noSuch() {
        LedArms x = new LedArms();
        x.arm(5, 5);
        x.joint(0, 2, 0, 15, 3);
        x.arm(5, 7);
        int t = Use.tape(x, 0, 1, 4, 4);
        int empty = x.tape(0);
        int[][] bad = {{t, 1, 0, 0}, {empty, 0, 0, 0}, {2, 0, 0, 0}, {-1, 0, 0, 0}, {t, 2, 0, 0}, {t, -1, 0, 0},
            {t, 0, 2001, 0}, {t, 0, -2001, 0}, {t, 0, 0, 2001}, {t, 0, 0, -1}, {t, 0, 0, Integer.MIN_VALUE}};
        for (int[] b : bad) {
            DUE.is("follow " + java.util.Arrays.toString(b), x.follow(b[0], b[1], b[2], b[3]), -1);
        }
        DUE.is("no stop", x.stop(), -1);
        for (int i = 2; i < 10; i++) {
            DUE.is("tape " + i, x.follow(t, 0, 0, 0), i);
        }
        DUE.is("an eleventh", x.follow(t, 0, 0, 0), -1);
        DUE.is("an eleventh that would stop", x.follow(t, 0, 2000, 0), -1);
        DUE.is("no stop then", x.stop(), -1);
    }

    /** So many poses are near that they are swept joint by joint; it must be the same row. */
    private static void manyPoses() {
        manyPoses(3, 1536 + 48, 1537 + 64, 1538 + 64, 1541 + 48, 1542 + 64, 1545 + 80, 1548 + 64);
        manyPoses(0, 0, 0, 0);
        manyPoses(0, 16, 0, 1, 2);
    }

    private static void manyPoses(int low, int... poses) {
        LedArms x = new LedArms();
        x.arm(5, 5);
        Plain y = new Plain();
        y.newArm(5, 5);
        for (int j = 0; j < 3; j++) {
            x.joint(0, 1, low * j, 15 - 2 * j, 3 - j);
            y.joint(0, 1, low * j, 15 - 2 * j, 3 - j);
        }
        x.tape(0);
        y.newTape(0);
        for (int pose : poses) {
            DUE.is("lead", x.lead(0, pose, 1), y.lead(0, pose, 1));
        }
        int[] errors = {2000, 1900, 1500, 1000, 500, 0};
        for (int i = 0; i < errors.length; i++) {
            DUE.is("follow", x.follow(0, 0, 100, errors[i]), y.follow(0, 0, 100, errors[i]));
            DUE.is("way", x.way(), y.way);
            DUE.is("stop", x.stop(), y.stop);
            for (int k = 0; k < x.about(i + 1, 1); k++) {
                DUE.same("pose", Use.look(x, i + 1, k, 0), y.look(i + 1, k, 0));
            }
        }
    }
}
