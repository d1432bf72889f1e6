/** Promise 23: strokes shared between two arms. */
public final class ShareTest {
    private static final Due DUE = new Due("ShareTest");

    public static void main(String[] args) {
        alike();
        unlike();
        order();
        noSuch();
        DUE.end();
    }

    private static LedArms twins(int speed) {
        LedArms x = new LedArms();
        for (int i = 0; i < 2; i++) {
            x.arm(5, 5);
            x.joint(i, 4, 0, 15, speed);
        }
        return x;
    }

    private static void share(LedArms x, int tapes, int error, int time, int bits) {
        DUE.is("share " + tapes + " " + error, x.share(tapes, error, 0), time);
        DUE.is("share " + tapes + " " + error + ", who", x.share(tapes, error, 1), bits);
    }

    private static void alike() {
        LedArms x = twins(1);
        Use.tape(x, 0, 1, 0, 1, 2);
        Use.tape(x, 0, 1, 8, 8);
        Use.tape(x, 0, 1, 2, 3);
        // arm 0: 0 and 2 without a hop, arm 1: 1; the other way round is as good, with more bits
        share(x, 7, 0, 5, 2);
        share(x, 1, 0, 3, 0);
        share(x, 3, 0, 3, 1);
        share(x, 6, 0, 2, 2);
        DUE.is("nothing is made", x.count(1), 3);
        LedArms y = twins(1);
        Use.tape(y, 1, 1, 0, 1, 2);
        share(y, 1, 0, 3, 0);
        LedArms full = twins(1);
        for (int i = 0; i < 10; i++) {
            Use.tape(full, i % 2, 1, i);
        }
        DUE.is("ten tapes leave no room, but none is made", full.share(1 + 4 + 16 + 64 + 256, 0, 0), 5);
        DUE.is("the last five", full.share(0x3e0, 0, 0), 3);
    }

    private static void unlike() {
        LedArms x = new LedArms();
        x.arm(5, 5);
        x.joint(0, 4, 0, 15, 1);
        x.arm(5, 5);
        x.joint(1, 3, 0, 15, 1);
        Use.tape(x, 0, 1, 0, 0, 0);
        Use.tape(x, 0, 1, 1, 1);
        // without error each must be done by its own arm
        share(x, 3, 0, 5, 0);
        // tape 1: 8696 6532 and 7772 6149 are 924 apart
        share(x, 3, 923, 5, 0);
        share(x, 3, 924, 3, 2);
        // tape 0: 9000 5000 and 8000 5000 are 1000 apart; then either may be arm 1's
        share(x, 3, 999, 3, 2);
        share(x, 3, 1000, 3, 1);
    }

    private static void order() {
        LedArms x = twins(2);
        // arm 1 can't follow what is farther than it has places
        LedArms y = new LedArms();
        y.arm(5, 5);
        y.joint(0, 4, 0, 15, 2);
        y.arm(5, 5);
        y.joint(1, 4, 0, 0, 2);
        Use.tape(y, 0, 1, 12, 12);
        Use.tape(y, 0, 1, 4, 4);
        Use.tape(y, 0, 1, 8, 8);
        // 12 8 4 or 4 8 12: two hops of 2: a tick each
        share(y, 7, 0, 8, 0);
        share(y, 3, 0, 7, 0);
        Use.tape(x, 0, 1, 12, 12);
        Use.tape(x, 0, 1, 4, 4);
        Use.tape(x, 0, 1, 8, 8);
        Use.tape(x, 0, 1, 5, 5);
        // two and two: 12 8 and 4 5: 5 and 4; 12 8 are tapes 0 and 2
        share(x, 15, 0, 5, 5);
        Use.tape(x, 1, 1, 0, 0);
        // 0 4 5 by hops of 2 and 1 is 7, 12 8 is 5; three tapes without a hop above 1 there are not
        share(x, 31, 0, 7, 5);
    }

    private static void noSuch() {
        LedArms x = twins(1);
        Use.tape(x, 0, 1, 0, 1, 2);
        int[][] bad = {{0, 0, 0}, {-1, 0, 0}, {2, 0, 0}, {3, 0, 0}, {1, -1, 0}, {1, 2001, 0}, {1, 0, 2}, {1, 0, -1},
            {1 << 10, 0, 0}, {Integer.MIN_VALUE, 0, 0}, {Integer.MIN_VALUE + 1, 0, 0}, {Integer.MAX_VALUE, 0, 0}};
        for (int[] b : bad) {
            DUE.is("share " + java.util.Arrays.toString(b), x.share(b[0], b[1], b[2]), -1);
        }
        x.tape(0);
        DUE.is("an empty one", x.share(3, 0, 0), -1);
        DUE.is("without it", x.share(1, 2000, 0), 3);
        for (int i = 2; i < 8; i++) {
            Use.tape(x, 0, 1, 0);
        }
        DUE.is("six", x.share(0xfd - 4, 0, 0), -1);
        DUE.is("five", x.share(0xfc - 4, 0, 0), 3);
        LedArms y = new LedArms();
        y.arm(5, 5);
        y.joint(0, 4, 0, 15, 1);
        Use.tape(y, 0, 1, 0);
        DUE.is("one arm", y.share(1, 0, 0), -1);
        y.arm(5, 5);
        DUE.is("an arm without joints", y.share(1, 0, 0), -1);
        y.joint(1, 4, 0, 15, 1);
        DUE.is("two arms", y.share(1, 0, 0), 1);
    }
}
