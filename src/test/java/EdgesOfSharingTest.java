import java.util.Arrays;

/** The edges that the document names for strokes shared between two arms (promise 23). */
public final class EdgesOfSharingTest {
    private static final Due DUE = new Due("EdgesOfSharingTest");

    public static void main(String[] args) {
        tapesAreOneToFive();
        bitsOfNoTapes();
        anEmptyOne();
        noSuchErrorOrWhat();
        fewerThanTwoArmsWithJoints();
        ofSeveralTheLeastBits();
        bitsAreNumbersOfTapes();
        followedIfItCanBe();
        withinAToldError();
        hopLess1AtLeast0();
        hopFromTheLastPoseToTheFirst();
        inSomeOrder();
        posesAsFollowed();
        theGreaterTimeOfBoth();
        nothingIsMade();
        DUE.end();
    }

    /** Two arms alike: each can do what the other one does. */
    private static LedArms twins(int speed) {
        LedArms x = new LedArms();
        Use.arm(x, 5, 5, 4, 0, 15, speed);
        Use.arm(x, 5, 5, 4, 0, 15, speed);
        return x;
    }

    /** Arm 1 has one pose, far from all that arm 0 does. */
    private static LedArms alone(int speed) {
        LedArms x = new LedArms();
        Use.arm(x, 5, 5, 4, 0, 15, speed);
        Use.arm(x, 20, 20, 1, 0, 0, 1);
        return x;
    }

    private static void shared(LedArms x, int tapes, int error, int time, int bits) {
        DUE.is("share " + tapes + " within " + error, x.share(tapes, error, 0), time);
        DUE.is("share " + tapes + " within " + error + ", bits", x.share(tapes, error, 1), bits);
    }

    /** "(bits, 5 at most)"; "NONE: .. none, more than 5" */
    private static void tapesAreOneToFive() {
        LedArms x = twins(1);
        for (int i = 0; i < 10; i++) {
            Use.tape(x, i % 2, 0, 4);
        }
        int[] times = {0, 1, 1, 2, 2, 3};
        for (int n = 0; n <= 10; n++) {
            int bits = (1 << n) - 1;
            DUE.is("the first " + n, x.share(bits, 0, 0), n < 1 || n > 5 ? -1 : times[n]);
            DUE.is("the last " + n, x.share(bits << 10 - n, 0, 0), n < 1 || n > 5 ? -1 : times[n]);
        }
        DUE.is("each other one", x.share(0x155, 0, 0), 3);
        DUE.is("each other one and one more", x.share(0x157, 0, 0), -1);
    }

    /** "NONE: bits of no TAPES" */
    private static void bitsOfNoTapes() {
        LedArms x = twins(1);
        DUE.is("no tape at all", x.share(1, 0, 0), -1);
        for (int i = 0; i < 3; i++) {
            Use.tape(x, 0, 0, 4);
        }
        int[] bad = {8, 9, 16, 1 << 10, 1 << 16, 1 << 30, 1 << 31, -1, -8, Integer.MIN_VALUE + 1, Integer.MAX_VALUE, 0};
        for (int bits : bad) {
            DUE.is("share " + bits, x.share(bits, 0, 0), -1);
        }
        DUE.is("all that there are", x.share(7, 0, 0), 2);
    }

    /** "NONE: .. an empty one" */
    private static void anEmptyOne() {
        LedArms x = twins(1);
        Use.tape(x, 0, 0, 4);
        x.tape(1);
        Use.tape(x, 0, 0, 4);
        int[] with = {2, 3, 6, 7};
        for (int bits : with) {
            DUE.is("share " + bits, x.share(bits, 0, 0), -1);
        }
        DUE.is("without it", x.share(5, 0, 0), 1);
    }

    /** "NONE: .. no such ERROR, what" */
    private static void noSuchErrorOrWhat() {
        LedArms x = twins(1);
        Use.tape(x, 0, 0, 4);
        int[][] bad = {{-1, 0}, {2001, 0}, {-1, 1}, {2001, 1}, {0, -1}, {0, 2}, {Integer.MIN_VALUE, 0},
            {Integer.MAX_VALUE, 0}, {0, Integer.MAX_VALUE}, {0, Integer.MIN_VALUE}};
        for (int[] b : bad) {
            DUE.is("share 1 " + Arrays.toString(b), x.share(1, b[0], b[1]), -1);
        }
        shared(x, 1, 0, 1, 0);
        shared(x, 1, 2000, 1, 0);
    }

    /** "NONE: .. fewer than two ARMS with JOINTS" */
    private static void fewerThanTwoArmsWithJoints() {
        LedArms x = new LedArms();
        DUE.is("no arm", x.share(1, 0, 0), -1);
        Use.arm(x, 5, 5, 4, 0, 15, 1);
        Use.tape(x, 0, 0, 4);
        DUE.is("one arm", x.share(1, 0, 0), -1);
        x.arm(5, 5);
        DUE.is("one arm with joints", x.share(1, 0, 0), -1);
        x.joint(1, 4, 0, 15, 1);
        DUE.is("two", x.share(1, 0, 0), 1);
        LedArms y = new LedArms();
        y.arm(5, 5);
        Use.arm(y, 5, 5, 4, 0, 15, 1);
        Use.tape(y, 1, 0, 4);
        DUE.is("arm 0 has none", y.share(1, 0, 0), -1);
    }

    /** "of several ways that with the least bits of TAPES for ARM 1" */
    private static void ofSeveralTheLeastBits() {
        LedArms x = twins(1);
        Use.tape(x, 1, 0, 4, 4);
        Use.tape(x, 0, 0, 4, 4);
        Use.tape(x, 1, 0, 4, 4);
        Use.tape(x, 0, 0, 4, 4);
        // one: arm 0, whosever tape it is
        shared(x, 1, 0, 2, 0);
        shared(x, 2, 0, 2, 0);
        shared(x, 3, 0, 2, 1);
        // three: two and one, and the one may be any: arm 1 does the first
        shared(x, 7, 0, 4, 1);
        shared(x, 14, 0, 4, 2);
        // four: two each
        shared(x, 15, 0, 4, 3);
    }

    private static void bitsAreNumbersOfTapes() {
        LedArms x = twins(1);
        for (int i = 0; i < 10; i++) {
            Use.tape(x, 0, 0, 4);
        }
        shared(x, 8 + 128, 0, 1, 8);
        shared(x, 512 + 256, 0, 1, 256);
        shared(x, 512, 0, 1, 0);
        shared(x, 4 + 16 + 64 + 512, 0, 2, 4 + 16);
    }

    /** "as it is or as FOLLOWED by the other one (.., if it can be)" */
    private static void followedIfItCanBe() {
        LedArms x = alone(1);
        Use.tape(x, 0, 0, 4, 4);
        Use.tape(x, 0, 0, 4, 4);
        Use.tape(x, 1, 0, 0);
        shared(x, 3, 2000, 4, 0);
        shared(x, 4, 2000, 1, 4);
        shared(x, 7, 2000, 4, 4);
        // a slow arm 1 can't follow what a fast arm 0 does, but arm 0 can follow it
        LedArms y = new LedArms();
        Use.arm(y, 5, 5, 4, 0, 15, 3);
        Use.arm(y, 5, 5, 4, 0, 15, 1);
        Use.tape(y, 0, 0, 4, 6);
        Use.tape(y, 0, 0, 6, 4);
        Use.tape(y, 1, 0, 4, 5);
        shared(y, 3, 0, 4, 0);
        shared(y, 4, 0, 2, 0);
        shared(y, 5, 0, 2, 4);
        shared(y, 7, 0, 4, 4);
    }

    /** "a told ERROR" */
    private static void withinAToldError() {
        LedArms x = new LedArms();
        Use.arm(x, 4, 5, 1, 0, 0, 1);
        Use.arm(x, 6, 5, 1, 0, 0, 1);
        Use.tape(x, 0, 0, 0, 0);
        Use.tape(x, 0, 0, 0, 0, 0);
        // tips 2000 apart
        shared(x, 3, 1999, 5, 0);
        shared(x, 3, 2000, 3, 1);
        shared(x, 2, 1999, 3, 0);
    }

    /** "an ARM's time: TICKS of all and of each HOP less 1 (0 at least)" */
    private static void hopLess1AtLeast0() {
        int[] due = {2, 2, 3, 4, 5};
        for (int far = 0; far < due.length; far++) {
            LedArms x = alone(1);
            Use.tape(x, 0, 0, 4);
            Use.tape(x, 0, 0, 4 + far);
            shared(x, 3, 0, due[far], 0);
        }
        LedArms y = alone(3);
        Use.tape(y, 0, 0, 0);
        Use.tape(y, 0, 0, 15);
        // hop 5
        shared(y, 3, 0, 2 + 4, 0);
    }

    /** "(HOP of the last POSE of one and the first of the next)" */
    private static void hopFromTheLastPoseToTheFirst() {
        LedArms x = alone(1);
        Use.tape(x, 0, 0, 2, 3, 4, 5, 6);
        Use.tape(x, 0, 0, 6, 5, 4);
        // 0 then 1: no hop; 1 then 0: from 4 to 2, a tick more
        shared(x, 3, 0, 8, 0);
        LedArms y = alone(1);
        Use.tape(y, 0, 0, 6, 5, 4);
        Use.tape(y, 0, 0, 2, 3, 4, 5, 6);
        shared(y, 3, 0, 8, 0);
        LedArms z = alone(1);
        Use.tape(z, 0, 0, 2, 3, 4, 5, 6);
        Use.tape(z, 0, 0, 3, 4, 5, 6, 7);
        // from 6 to 3: two ticks; from 7 to 2: four
        shared(z, 3, 0, 12, 0);
    }

    /** "in some order" */
    private static void inSomeOrder() {
        LedArms x = alone(1);
        int[] at = {8, 0, 12, 4, 15};
        for (int pose : at) {
            Use.tape(x, 0, 0, pose);
        }
        // from 0 4 8 12 to 15: 3 and 3 and 3 and 2 ticks
        shared(x, 31, 0, 5 + 11, 0);
        // 0 and 15, with 8 in between
        shared(x, 1 + 2 + 16, 0, 3 + 7 + 6, 0);
        shared(x, 2 + 16, 0, 2 + 14, 0);
    }

    /** A TAPE FOLLOWED has POSES of its own: by the least way, the first by numbers. */
    private static void posesAsFollowed() {
        // arm 0 has pose 4 alone: 7 7, for arm 1 by 0 and 4 (64) or 4 and 12 (196), of which the first is done
        int[] poses = {65, 0, 3 + 16 * 12};
        // arm 1 does tape 0 and its own: hop 1, hop 4; hop 8 would be 14, so that arm 0 does both of its own
        int[] times = {7, 10, 12};
        int[] bits = {3, 3, 2};
        for (int i = 0; i < poses.length; i++) {
            LedArms x = new LedArms();
            Use.arm(x, 7, 5, 2, 4, 4, 1);
            Use.arm(x, 5, 5, 2, 0, 15, 1, 2, 0, 15, 1);
            Use.tape(x, 0, 0, 4, 4, 4, 4, 4, 4);
            Use.tape(x, 1, 0, poses[i]);
            Use.tape(x, 0, 0, 4, 4, 4, 4, 4, 4);
            shared(x, 7, 0, times[i], bits[i]);
        }
    }

    /** "The least greater time of both ARMS" */
    private static void theGreaterTimeOfBoth() {
        LedArms x = twins(1);
        Use.tape(x, 0, 0, 4, 4, 4, 4, 4);
        Use.tape(x, 0, 0, 4, 4, 4);
        Use.tape(x, 0, 0, 4, 4);
        Use.tape(x, 0, 0, 4, 4, 4, 4);
        // 5 against 3 and 2
        shared(x, 7, 0, 5, 1);
        // 14 in all: 7 and 7: 5 and 2 against 3 and 4
        shared(x, 15, 0, 7, 5);
        shared(x, 9, 0, 5, 1);
        // the sum is the same, but not the greater one
        shared(x, 6, 0, 3, 2);
    }

    /** share() tells; it makes no TAPE and leaves stop() and way(). */
    private static void nothingIsMade() {
        LedArms x = twins(1);
        Use.tape(x, 0, 3, 4, 5);
        Use.tape(x, 1, 3, 4, 5);
        x.follow(0, 1, 0, 0);
        x.follow(0, 1, 2000, 0);
        x.play(0, 0, 0);
        String before = Use.state(x);
        shared(x, 7, 2000, 4, 1);
        DUE.same("all is as it was", Use.state(x), before);
    }
}
