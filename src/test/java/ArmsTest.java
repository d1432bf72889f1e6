/** Promises 1, 5, 6, 7, 8: a new object, arms, joints, points, hops. */
public final class ArmsTest {
    private static final Due DUE = new Due("ArmsTest");

    public static void main(String[] args) {
        newObject();
        arms();
        joints();
        points();
        hops();
        DUE.end();
    }

    private static void newObject() {
        LedArms x = new LedArms();
        DUE.is("NONE", LedArms.NONE, -1);
        for (int i = 0; i < 5; i++) {
            DUE.is("new count " + i, x.count(i), 0);
        }
        DUE.is("new nozzle", x.count(5), 10);
        DUE.is("new make(0)", x.make(0), 0);
        DUE.is("new make(1)", x.make(1), -2);
        DUE.is("new fault", x.fault(0), 0);
        DUE.is("new fault's place", x.fault(1), -1);
        DUE.is("new stop", x.stop(), -1);
        DUE.is("new way", x.way(), -1);
        DUE.is("new met", x.met(0), -1);
        DUE.is("new clean", x.clean(), 0);
        DUE.is("new thick", x.thick(0, 0, 15, 15, 3), 256);
        DUE.is("new about", x.about(0, 0), -1);
        DUE.same("new look", Use.look(x, 0, 0, 0), "IndexOutOfBoundsException");
    }

    private static void arms() {
        int[][] bad = {{-1, 0}, {0, -1}, {21, 0}, {0, 21}, {Integer.MIN_VALUE, 3}, {3, Integer.MAX_VALUE}};
        LedArms x = new LedArms();
        for (int[] b : bad) {
            DUE.is("arm " + b[0] + " " + b[1], x.arm(b[0], b[1]), -1);
        }
        DUE.is("no arm was made", x.count(0), 0);
        DUE.is("arm at the least", x.arm(0, 0), 0);
        DUE.is("arm at the greatest", x.arm(20, 20), 1);
        DUE.is("a third arm", x.arm(5, 5), -1);
        DUE.is("two arms", x.count(0), 2);
        DUE.is("base of arm 1", x.point(1, 0, 0, 1), 20000);
    }

    private static void joints() {
        LedArms x = new LedArms();
        DUE.is("joint of no arm", x.joint(0, 1, 0, 0, 1), -1);
        x.arm(1, 1);
        int[][] bad = {
            {0, 0, 0, 5, 1}, {0, 7, 0, 5, 1}, {0, 1, -1, 5, 1}, {0, 1, 0, 16, 1}, {0, 1, 5, 4, 1}, {0, 1, 16, 16, 1},
            {0, 1, 0, 5, 0}, {0, 1, 0, 5, 4}, {1, 1, 0, 5, 1}, {-1, 1, 0, 5, 1}
        };
        for (int[] b : bad) {
            DUE.is("joint " + java.util.Arrays.toString(b), x.joint(b[0], b[1], b[2], b[3], b[4]), -1);
        }
        DUE.is("no joints, no tape", x.tape(0), -1);
        DUE.is("joint 0, the least of all", x.joint(0, 1, 0, 0, 1), 0);
        DUE.is("joint 1, the greatest of all", x.joint(0, 6, 15, 15, 3), 1);
        DUE.is("joint 2", x.joint(0, 2, 3, 9, 2), 2);
        DUE.is("a fourth joint", x.joint(0, 2, 3, 9, 2), -1);
        x.arm(2, 2);
        DUE.is("joint of arm 1", x.joint(1, 2, 0, 9, 2), 0);
        DUE.is("tape of arm 0", x.tape(0), 0);
        DUE.is("arm 1 has no tapes yet", x.joint(1, 2, 0, 9, 2), 1);
        DUE.is("tape of arm 1", x.tape(1), 1);
        DUE.is("arm 1 has a tape", x.joint(1, 2, 0, 9, 2), -1);
    }

    private static void points() {
        LedArms x = new LedArms();
        x.arm(0, 0);
        DUE.is("an arm without joints has pose 0 alone", x.point(0, 0, 0, 0), 0);
        DUE.is("and no other", x.point(0, 1, 0, 0), Integer.MIN_VALUE);
        x.joint(0, 6, 3, 9, 3);
        x.joint(0, 4, 0, 15, 1);
        x.joint(0, 1, 2, 2, 2);
        // directions 3, 3, 5: 6 times (383, 924), 4 times (383, 924), once (-383, 924)
        int[][] due = {{0, 0}, {2298, 5544}, {3830, 9240}, {3447, 10164}};
        for (int k = 0; k < 4; k++) {
            DUE.is("x of point " + k, x.point(0, 515, k, 0), due[k][0]);
            DUE.is("y of point " + k, x.point(0, 515, k, 1), due[k][1]);
        }
        // directions 9, 9 and 15 (24 modulo 16 is 8), 8 and 2 is 10
        DUE.is("x below 0", x.point(0, 9 + 16 * 15 + 256 * 2, 2, 0), 6 * -924 + 4 * -1000);
        DUE.is("y below 0", x.point(0, 9 + 16 * 15 + 256 * 2, 2, 1), 6 * -383);
        DUE.is("x of the tip", x.point(0, 9 + 16 * 15 + 256 * 2, 3, 0), 6 * -924 + 4 * -1000 - 707);
        int[][] bad = {
            {1, 515, 0, 0}, {-1, 515, 0, 0}, {0, 514, 0, 0}, {0, 522, 0, 0}, {0, 3, 0, 0}, {0, 771, 0, 0}, {0, -515, 0, 0},
            {0, 515, 4, 0}, {0, 515, -1, 0}, {0, 515, 0, 2}, {0, 515, 0, -1}, {0, 4096 + 515, 0, 0}
        };
        for (int[] b : bad) {
            DUE.is("point " + java.util.Arrays.toString(b), x.point(b[0], b[1], b[2], b[3]), Integer.MIN_VALUE);
        }
        everyDirection();
    }

    private static void everyDirection() {
        int[] cos = {1000, 924, 707, 383, 0, -383, -707, -924, -1000, -924, -707, -383, 0, 383, 707, 924};
        int[] sin = {0, 383, 707, 924, 1000, 924, 707, 383, 0, -383, -707, -924, -1000, -924, -707, -383};
        LedArms x = new LedArms();
        x.arm(7, 11);
        x.joint(0, 1, 0, 15, 1);
        for (int d = 0; d < 16; d++) {
            DUE.is("X of " + d, x.point(0, d, 1, 0), 7000 + cos[d]);
            DUE.is("Y of " + d, x.point(0, d, 1, 1), 11000 + sin[d]);
        }
        DUE.is("a joint that there isn't must be at 0", x.point(0, 16, 1, 0), Integer.MIN_VALUE);
    }

    private static void hops() {
        LedArms x = new LedArms();
        DUE.is("hop of no arm", x.hop(0, 0, 0), -1);
        x.arm(3, 3);
        DUE.is("hop of an arm without joints", x.hop(0, 0, 0), 0);
        x.joint(0, 1, 0, 15, 1);
        x.joint(0, 1, 0, 15, 2);
        x.joint(0, 1, 0, 9, 3);
        DUE.is("hop to itself", x.hop(0, 5, 5), 0);
        DUE.is("a joint of speed 1", x.hop(0, 0, 15), 15);
        DUE.is("back", x.hop(0, 15, 0), 15);
        DUE.is("15 by 2, cut upwards", x.hop(0, 0, 15 * 16), 8);
        DUE.is("4 by 3, cut upwards", x.hop(0, 0, 4 * 256), 2);
        DUE.is("3 by 3", x.hop(0, 3 * 256, 0), 1);
        DUE.is("the greatest of three", x.hop(0, 0, 2 + 16 * 3 + 256 * 9), 3);
        DUE.is("no such pose", x.hop(0, 0, 10 * 256), -1);
        DUE.is("no such pose ahead", x.hop(0, -1, 0), -1);
        DUE.is("no such arm", x.hop(1, 0, 0), -1);
    }
}
