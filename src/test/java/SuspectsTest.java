/** Promise 25: which wear the paint tells of. */
public final class SuspectsTest {
    private static final Due DUE = new Due("SuspectsTest");

    public static void main(String[] args) {
        noWear();
        sure();
        unsure();
        nothingLaid();
        noSuch();
        DUE.end();
    }

    private static LedArms painter() {
        LedArms x = new LedArms();
        x.arm(5, 5);
        x.joint(0, 4, 0, 15, 2);
        return x;
    }

    private static void all(String when, LedArms x, int tape, int... due) {
        for (int what = 0; what < 6; what++) {
            DUE.is(when + ", what " + what, x.suspects(tape, 0, 0, what), due[what]);
        }
    }

    private static void noWear() {
        LedArms x = painter();
        int t = Use.tape(x, 0, 1, 0, 2, 4, 4);
        // none; lag 1 since 3; slack 1 2 3 since 2 and since 3
        all("no wear", x, t, 8, 1, 1, -1, -1, -1);
        DUE.is("suspects lay no paint", x.count(3), 0);
        x.play(t, 0, 0);
        all("what lies there does not count", x, t, 8, 1, 1, -1, -1, -1);
        x.wear(0, 0, 0, 3, 4);
        all("a wear since behind the end", x, t, 8, 1, 1, -1, -1, -1);
    }

    private static void sure() {
        LedArms x = painter();
        int t = Use.tape(x, 0, 1, 0, 2, 4, 4);
        x.wear(0, 0, 0, 1, 1);
        // 0 0 2 4: lag 1 since 0 or 1; and 0 2 4 0, lag 3 since 3
        all("lag", x, t, 3, 1, 0, 0, 0, 3);
        x.wear(0, 0, 1, 1, 0);
        // 0 1 3 3: the same by no other
        all("slack", x, t, 1, 1, 0, 0, 0, 0);
        x.wear(0, 0, 1, 1, 1);
        // 0 2 3 3
        all("slack since 1", x, t, 1, 1, 0, 0, 1, 1);
        x.wear(0, 0, 1, 0, 0);
        all("none again", x, t, 8, 1, 1, -1, -1, -1);
    }

    private static void unsure() {
        LedArms x = new LedArms();
        x.arm(5, 5);
        x.joint(0, 4, 0, 15, 3);
        x.joint(0, 1, 0, 15, 3);
        // both joints turn at once; with spray at the end alone many are as good
        x.tape(0);
        x.lead(0, 0, 0);
        x.lead(0, 16 * 3, 0);
        x.lead(0, 16 * 3, 5);
        x.wear(0, 1, 0, 2, 0);
        // told 0 3 3 for joint 1: at the last tick 0: lag 2 and 3 since 0 1 2; slack 3 since 0
        all("joint 1", x, 0, 7, 2, 0, 1, 0, 2);
        int t = x.tape(0);
        x.lead(t, 0, 0);
        x.lead(t, 0, 5);
        // nothing moves: all are as good as none
        all("nothing moves", x, t, 25, 3, 1, -1, -1, -1);
        // every tick beyond the face
        int far = Use.tape(x, 0, 9, 0);
        DUE.is("all is lost", x.suspects(far, 0, 20000, 0), 13);
        DUE.is("none among them", x.suspects(far, 0, 20000, 2), 1);
        twoJoints();
    }

    private static void twoJoints() {
        LedArms x = new LedArms();
        x.arm(5, 5);
        x.joint(0, 1, 0, 15, 3);
        x.joint(0, 1, 0, 15, 3);
        // 0 0 and then 2 12 (directions 2 and 14): lag of joint 0: 0 and 12; of joint 1: 2 and 2
        x.tape(0);
        x.lead(0, 2 + 16 * 14, 0);
        x.lead(0, 16 * 14, 5);
        x.wear(0, 0, 0, 1, 1);
        // told directions 0 and 14; joint 0 lags: 2 and 0: 6707 5707; joint 1 stays at 14
        DUE.is("bits", x.suspects(0, 0, 0, 1), 1);
        DUE.is("sure", x.suspects(0, 0, 0, 3), 0);
        // played along a belt that takes all to one spot
        DUE.is("with an offset that loses it", x.suspects(0, 0, 20000, 1), 3);
    }

    private static void nothingLaid() {
        LedArms x = painter();
        int empty = x.tape(0);
        all("an empty tape", x, empty, 1, 0, 1, -1, -1, -1);
        int dry = Use.tape(x, 0, 0, 0, 2, 4);
        x.wear(0, 0, 0, 1, 0);
        all("a dry tape", x, dry, 19, 1, 1, -1, -1, -1);
        int t = Use.tape(x, 0, 9, 0, 2, 4);
        x.nozzle(0);
        all("a shut nozzle", x, t, 19, 1, 1, -1, -1, -1);
        x.nozzle(10);
        DUE.is("an open one", x.suspects(t, 0, 0, 2), 0);
    }

    private static void noSuch() {
        LedArms x = painter();
        int t = Use.tape(x, 0, 1, 0, 2);
        int[][] bad = {{1, 0, 0, 0}, {-1, 0, 0, 0}, {t, 2001, 0, 0}, {t, -2001, 0, 0}, {t, 0, 20001, 0},
            {t, 0, -20001, 0}, {t, 0, 0, 6}, {t, 0, 0, -1}};
        for (int[] b : bad) {
            DUE.is("suspects " + java.util.Arrays.toString(b), x.suspects(b[0], b[1], b[2], b[3]), -2);
        }
    }
}
