/** The edges that the document names for arms, joints, poses, points and hops (promises 1, 5 to 8, and their terms). */
public final class EdgesOfArmsTest {
    private static final Due DUE = new Due("EdgesOfArmsTest");
    private static final int NO_POINT = Integer.MIN_VALUE;

    public static void main(String[] args) {
        aNewObjectHasNothing();
        armsAreAtMostTwo();
        basesAreFrom0To20();
        jointsAreAtMostThree();
        lengthsAreFrom1To6();
        endsAreFrom0To15AndLowAtMostHigh();
        speedsAreFrom1To3();
        noJointMoreOnceTheArmHasTapes();
        aRefusedJointLeavesTheArm();
        placesAreWithinTheEnds();
        theFirstAndTheLastPose();
        jointsThatThereArentAreAt0();
        directionsAreModulo16();
        pointsAreOneMoreThanJoints();
        whatIs0Or1();
        noSuchArm();
        hopsAreCutUpwards();
        hopIsTheGreatestOfAllJoints();
        placesDontWrapAround();
        DUE.end();
    }

    /** "No ARMS, TAPES, PAINT; an empty TAPE of bytes." */
    private static void aNewObjectHasNothing() {
        LedArms x = new LedArms();
        DUE.same("all of a new object", Use.state(x), "0 0 0 0 0 10 0 0 0 256 fault 0 -1 stop -1 way -1 met");
        DUE.is("no byte", x.make(1), -2);
        DUE.is("the first bytes", x.feed(0, 0, 0, 0, 0), 20);
        LedArms other = new LedArms();
        DUE.is("objects have nothing in common", other.make(1), -2);
    }

    /** "ARMS, at most 2, numbered from 0 on"; "NONE: .. or there are 2." */
    private static void armsAreAtMostTwo() {
        LedArms x = new LedArms();
        DUE.is("the first arm", x.arm(1, 2), 0);
        DUE.is("the second arm", x.arm(1, 2), 1);
        DUE.is("a third arm", x.arm(1, 2), -1);
        DUE.is("arms", x.count(0), 2);
        DUE.is("arm 1 stays at its base", x.point(1, 0, 0, 1), 2000);
    }

    /** "a BASE (x, y 0 .. 20)" */
    private static void basesAreFrom0To20() {
        for (int v = -2; v <= 22; v++) {
            boolean fine = v >= 0 && v <= 20;
            LedArms x = new LedArms();
            DUE.is("arm(" + v + ", 3)", x.arm(v, 3), fine ? 0 : -1);
            DUE.is("its x", x.point(0, 0, 0, 0), fine ? 1000 * v : NO_POINT);
            LedArms y = new LedArms();
            DUE.is("arm(3, " + v + ")", y.arm(3, v), fine ? 0 : -1);
            DUE.is("its y", y.point(0, 0, 0, 1), fine ? 1000 * v : NO_POINT);
        }
    }

    /** "JOINTS (1 .. 3, numbered from 0 on)" */
    private static void jointsAreAtMostThree() {
        LedArms x = new LedArms();
        x.arm(5, 5);
        for (int i = 0; i < 5; i++) {
            DUE.is("joint " + i, x.joint(0, 1, 0, 15, 1), i < 3 ? i : -1);
        }
        DUE.is("a fourth point", x.point(0, 0, 3, 0), 8000);
        DUE.is("no fifth point", x.point(0, 0, 4, 0), NO_POINT);
    }

    /** "a LENGTH 1 .. 6" */
    private static void lengthsAreFrom1To6() {
        for (int length = -1; length <= 8; length++) {
            LedArms x = new LedArms();
            x.arm(5, 5);
            boolean fine = length >= 1 && length <= 6;
            DUE.is("a joint of length " + length, x.joint(0, length, 0, 15, 1), fine ? 0 : -1);
            DUE.is("its point", x.point(0, 0, 1, 0), fine ? 5000 + 1000 * length : NO_POINT);
        }
    }

    /** "ENDS low and high (0 .. 15, low at most high)" */
    private static void endsAreFrom0To15AndLowAtMostHigh() {
        for (int low = -1; low <= 16; low++) {
            for (int high = -1; high <= 16; high++) {
                LedArms x = new LedArms();
                x.arm(5, 5);
                boolean fine = 0 <= low && low <= high && high <= 15;
                DUE.is("a joint from " + low + " to " + high, x.joint(0, 1, low, high, 1), fine ? 0 : -1);
            }
        }
    }

    /** "a SPEED 1 .. 3" */
    private static void speedsAreFrom1To3() {
        for (int speed = -1; speed <= 5; speed++) {
            LedArms x = new LedArms();
            x.arm(5, 5);
            DUE.is("a joint of speed " + speed, x.joint(0, 1, 0, 15, speed), speed >= 1 && speed <= 3 ? 0 : -1);
        }
    }

    /** "A JOINT more (as long as the ARM has no TAPES)" */
    private static void noJointMoreOnceTheArmHasTapes() {
        LedArms x = new LedArms();
        Use.arm(x, 5, 5, 1, 0, 15, 1);
        Use.arm(x, 5, 5, 1, 0, 15, 1);
        x.tape(0);
        DUE.is("a tape without ticks is a tape", x.joint(0, 1, 0, 15, 1), -1);
        DUE.is("the other arm has none yet", x.joint(1, 1, 0, 15, 1), 1);
        x.lead(0, 0, 0);
        DUE.is("followed by arm 1", x.follow(0, 1, 0, 2000), 1);
        DUE.is("that is a tape of arm 1", x.joint(1, 1, 0, 15, 1), -1);
        LedArms y = new LedArms();
        Use.arm(y, 5, 5, 1, 0, 15, 1);
        Use.make(y, "make 0;");
        DUE.is("a text with a fault makes none", y.joint(0, 1, 0, 15, 1), 1);
        y.follow(0, 0, 0, 0);
        DUE.is("nor does a follow that can't be", y.joint(0, 1, 0, 15, 1), 2);
    }

    /** "NONE: it can't be", and nothing of it comes. */
    private static void aRefusedJointLeavesTheArm() {
        int[][] bad = {{7, 0, 15, 1}, {1, 3, 2, 1}, {1, 0, 16, 1}, {1, -1, 2, 1}, {1, 0, 15, 4}};
        for (int[] b : bad) {
            LedArms x = new LedArms();
            Use.arm(x, 5, 5, 2, 1, 2, 1);
            DUE.is("a second joint", x.joint(0, b[0], b[1], b[2], b[3]), -1);
            DUE.is("no third point", x.point(0, 1, 2, 0), NO_POINT);
            DUE.is("the next is joint 1", x.joint(0, 1, 0, 0, 1), 1);
            DUE.is("and is as told", x.point(0, 1, 2, 0), 5000 + 3 * 924);
        }
    }

    /** "each within its ENDS" */
    private static void placesAreWithinTheEnds() {
        LedArms x = threeJoints();
        for (int pose = -40; pose < 5000; pose++) {
            // an object is for 512 calls
            x = pose % 400 == 0 ? threeJoints() : x;
            boolean there = pose >= 0 && pose < 4096;
            int p = pose % 16;
            int q = pose / 16 % 16;
            int r = pose / 256;
            there = there && p >= 2 && p <= 12 && q == 3 && r <= 14;
            boolean found = x.point(0, pose, 0, 0) != NO_POINT;
            if (found != there) {
                DUE.is("pose " + pose, found, there);
            }
        }
        x = threeJoints();
        int[] ends = {2 + 48, 12 + 48, 2 + 48 + 14 * 256, 12 + 48 + 14 * 256};
        int[] beyond = {1 + 48, 13 + 48, 2 + 32, 2 + 64, 2 + 48 + 15 * 256, Integer.MIN_VALUE, Integer.MAX_VALUE,
            50 - 4096, 50 + 4096, 50 - 65536, 50 + 65536};
        for (int pose : ends) {
            DUE.is("point of " + pose, x.point(0, pose, 0, 0), 5000);
            DUE.is("hop of " + pose, x.hop(0, pose, pose), 0);
        }
        for (int pose : beyond) {
            DUE.is("point of " + pose, x.point(0, pose, 0, 0), NO_POINT);
            DUE.is("hop to " + pose, x.hop(0, 50, pose), -1);
            DUE.is("hop from " + pose, x.hop(0, pose, 50), -1);
        }
    }

    /** POSES are 0 .. 4095, if all ENDS are as far as can be. */
    private static void theFirstAndTheLastPose() {
        LedArms x = new LedArms();
        Use.arm(x, 5, 5, 1, 0, 15, 1, 1, 0, 15, 1, 1, 0, 15, 1);
        x.tape(0);
        int[] beyond = {-1, 4096, 4097, -4096, 8191, 8192, 65536, Integer.MIN_VALUE, Integer.MAX_VALUE};
        for (int pose : beyond) {
            DUE.is("point of " + pose, x.point(0, pose, 0, 0), NO_POINT);
            DUE.is("hop from " + pose, x.hop(0, pose, 0), -1);
            DUE.is("hop to " + pose, x.hop(0, 0, pose), -1);
            DUE.is("lead to " + pose, x.lead(0, pose, 0), -1);
        }
        DUE.is("hop from the first to the last", x.hop(0, 0, 4095), 15);
        DUE.is("the last one's point", x.point(0, 4095, 1, 0), 5924);
        DUE.is("lead to the last", x.lead(0, 4095, 0), 1);
    }

    private static LedArms threeJoints() {
        LedArms x = new LedArms();
        Use.arm(x, 5, 5, 1, 2, 12, 1, 1, 3, 3, 1, 1, 0, 14, 1);
        return x;
    }

    /** "(0 for JOINTS that there aren't)" */
    private static void jointsThatThereArentAreAt0() {
        LedArms x = new LedArms();
        x.arm(5, 5);
        int[] tooFew = {1, 16, 256};
        for (int joints = 0; joints < 3; joints++) {
            DUE.is("pose 0 of " + joints + " joints", x.point(0, 0, 0, 0), 5000);
            for (int j = joints; j < 3; j++) {
                DUE.is("joint " + j + " of " + joints, x.point(0, tooFew[j], 0, 0), NO_POINT);
            }
            x.joint(0, 1, 0, 15, 1);
            DUE.is("joint " + joints + " is there now", x.point(0, 15 * tooFew[joints], 0, 0), 5000);
        }
    }

    /** "X and Y of (the sum of places of JOINTS 0 .. k, modulo 16)"; "Y of d: X of (d and 12, modulo 16)" */
    private static void directionsAreModulo16() {
        LedArms x = new LedArms();
        Use.arm(x, 9, 9, 1, 0, 15, 1, 2, 0, 15, 1, 3, 0, 15, 1);
        // places, directions of the second and third joint: sums of 16, 17, 30, 32, 45
        int[][] sums = {{15, 1, 0}, {15, 2, 0}, {15, 15, 0}, {15, 15, 2}, {15, 15, 15}, {8, 8, 8}};
        int[][] due = {
            {9000 + 924 + 2000 + 3000, 9000 - 383},
            {9000 + 924 + 2 * 924 + 3 * 924, 9000 - 383 + 2 * 383 + 3 * 383},
            {9000 + 924 + 2 * 707 + 3 * 707, 9000 - 383 - 2 * 707 - 3 * 707},
            {9000 + 924 + 2 * 707 + 3000, 9000 - 383 - 2 * 707},
            {9000 + 924 + 2 * 707 + 3 * 383, 9000 - 383 - 2 * 707 - 3 * 924},
            {9000 - 1000 + 2000 - 3000, 9000}
        };
        for (int i = 0; i < sums.length; i++) {
            int pose = sums[i][0] + 16 * sums[i][1] + 256 * sums[i][2];
            DUE.is("x of the tip of " + pose, x.point(0, pose, 3, 0), due[i][0]);
            DUE.is("y of the tip of " + pose, x.point(0, pose, 3, 1), due[i][1]);
        }
    }

    /** "Integer.MIN_VALUE: no such .. point" */
    private static void pointsAreOneMoreThanJoints() {
        LedArms x = new LedArms();
        x.arm(5, 5);
        for (int joints = 0; joints <= 3; joints++) {
            for (int k = -1; k <= 5; k++) {
                int due = k < 0 || k > joints ? NO_POINT : 5000 + 2000 * k;
                DUE.is("point " + k + " of " + joints + " joints", x.point(0, 0, k, 0), due);
            }
            x.joint(0, 2, 0, 15, 1);
        }
        DUE.is("point " + Integer.MAX_VALUE, x.point(0, 0, Integer.MAX_VALUE, 0), NO_POINT);
        DUE.is("point " + Integer.MIN_VALUE, x.point(0, 0, Integer.MIN_VALUE, 0), NO_POINT);
    }

    /** "Integer.MIN_VALUE: no such .. what" */
    private static void whatIs0Or1() {
        LedArms x = new LedArms();
        x.arm(5, 7);
        int[] due = {NO_POINT, 5000, 7000, NO_POINT};
        for (int what = -1; what <= 2; what++) {
            DUE.is("what " + what, x.point(0, 0, 0, what), due[what + 1]);
        }
    }

    /** "no such ARM" */
    private static void noSuchArm() {
        LedArms x = new LedArms();
        for (int arms = 0; arms <= 2; arms++) {
            int[] none = {-1, arms, 2, Integer.MIN_VALUE, Integer.MAX_VALUE};
            for (int arm : none) {
                DUE.is(arms + " arms, joint of " + arm, x.joint(arm, 1, 0, 15, 1), -1);
                DUE.is(arms + " arms, point of " + arm, x.point(arm, 0, 0, 0), NO_POINT);
                DUE.is(arms + " arms, hop of " + arm, x.hop(arm, 0, 0), -1);
                DUE.is(arms + " arms, tape of " + arm, x.tape(arm), -1);
                DUE.is(arms + " arms, wear of " + arm, x.wear(arm, 0, 0, 1, 0), false);
            }
            Use.arm(x, 5, 5, 1, 0, 15, 1);
        }
        DUE.is("no tape came", x.count(1), 0);
    }

    /** "how far its places are apart by SPEED, cut upwards" */
    private static void hopsAreCutUpwards() {
        for (int speed = 1; speed <= 3; speed++) {
            LedArms x = new LedArms();
            Use.arm(x, 5, 5, 1, 0, 15, speed);
            for (int far = 0; far <= 15; far++) {
                int due = 0;
                while (due * speed < far) {
                    due++;
                }
                DUE.is("hop of " + far + " at speed " + speed, x.hop(0, 0, far), due);
                DUE.is("hop of " + far + " back", x.hop(0, 15, 15 - far), due);
            }
        }
    }

    /** "of JOINTS the greatest number of TICKS that one needs" */
    private static void hopIsTheGreatestOfAllJoints() {
        LedArms x = new LedArms();
        Use.arm(x, 5, 5, 1, 0, 15, 3, 1, 0, 15, 3, 1, 0, 15, 3);
        int[] units = {1, 16, 256};
        for (int j = 0; j < 3; j++) {
            int pose = 4 * units[j] + 3 * units[(j + 1) % 3];
            DUE.is("joint " + j + " needs most", x.hop(0, 0, pose), 2);
        }
        DUE.is("not their sum", x.hop(0, 0, 3 + 3 * 16 + 3 * 256), 1);
        LedArms y = new LedArms();
        Use.arm(y, 5, 5, 1, 0, 15, 3, 1, 0, 15, 1);
        DUE.is("the farthest is not the slowest", y.hop(0, 0, 6 + 16 * 3), 3);
    }

    /** Places are within ENDS: no JOINT goes from 15 to 0 in one step. */
    private static void placesDontWrapAround() {
        LedArms x = new LedArms();
        Use.arm(x, 5, 5, 1, 0, 15, 1);
        DUE.is("from 15 to 0", x.hop(0, 15, 0), 15);
        DUE.is("from 1 to 15", x.hop(0, 1, 15), 14);
    }
}
