import java.util.Arrays;

/** The edges that the document names for suspects and for what is led anew (promises 25, 26). */
public final class EdgesOfDoubtTest {
    private static final Due DUE = new Due("EdgesOfDoubtTest");

    public static void main(String[] args) {
        allJointsKindsSizesAndTicks();
        anEmptyTapeHasNoneAlone();
        sinceBelowTheTapesTicks();
        wearThatThereIsBehindTheEnd();
        itsPaintAlone();
        paintNotTicks();
        lostPaintIsNone();
        nozzleAndSprayCount();
        theCornerSpotIsASpot();
        jointsAtTheirEnds();
        sureIfOneJointAndNotNone();
        theLeastAndTheGreatestT();
        jointsAsBits();
        wearOfTheTapesArm();
        noSuchSuspects();
        barsAreFrom1To99();
        lessPaintThanBar();
        laysAsMuchAtLeast();
        withWhatIsThereBarIsReached();
        theShortestCut();
        ofSeveralTheFirst();
        allOfTheTape();
        withoutWear();
        ticksAtTheirTimes();
        nothingIsMissing();
        theCornerMayBeMissing();
        noSuchCut();
        DUE.end();
    }

    private static void told(String when, LedArms x, int tape, int... due) {
        for (int what = 0; what < 6; what++) {
            DUE.is(when + ", what " + what, x.suspects(tape, 0, 0, what), due[what]);
        }
    }

    /** "all JOINTS, LAGS, SLACKS and T": six for each JOINT and TICK, and none. */
    private static void allJointsKindsSizesAndTicks() {
        int[] lengths = {1, 2, 3, 39, 40};
        for (int joints = 1; joints <= 3; joints++) {
            for (int ticks : lengths) {
                LedArms x = new LedArms();
                x.arm(5, 5);
                for (int j = 0; j < joints; j++) {
                    x.joint(0, 1, 0, 15, 1);
                }
                x.tape(0);
                for (int i = 0; i < ticks; i++) {
                    x.lead(0, 0, 1);
                }
                told(joints + " joints, " + ticks + " ticks", x, 0, 1 + 6 * joints * ticks, (1 << joints) - 1, 1, -1, -1, -1);
            }
        }
    }

    /** "T below the TAPE's TICKS": an empty TAPE has no such T. */
    private static void anEmptyTapeHasNoneAlone() {
        LedArms x = Use.painter();
        x.tape(0);
        x.wear(0, 0, 0, 1, 0);
        told("an empty tape", x, 0, 1, 0, 1, -1, -1, -1);
    }

    private static void sinceBelowTheTapesTicks() {
        LedArms x = Use.painter();
        x.tape(0);
        x.lead(0, 0, 0);
        x.lead(0, 3, 0);
        x.lead(0, 6, 5);
        // at tick 2 alone there is paint; slack 3 since 0 or 1 has it at 3, as lag 1 since 0, 1, 2 has
        x.wear(0, 0, 0, 1, 2);
        told("lag 1", x, 0, 5, 1, 0, 0, 0, 2);
        x.wear(0, 0, 0, 1, 3);
        // none, slack 1 2 3 since 2
        told("since behind the end", x, 0, 4, 1, 1, -1, -1, -1);
    }

    /** A WEAR since a TICK that the TAPE hasn't is as none. */
    private static void wearThatThereIsBehindTheEnd() {
        LedArms x = Use.painter();
        Use.tape(x, 0, 1, 0, 3, 6);
        told("no wear", x, 0, 4, 1, 1, -1, -1, -1);
        int[] since = {3, 4, 39};
        for (int s : since) {
            x.wear(0, 0, 0, 3, s);
            told("lag since " + s, x, 0, 4, 1, 1, -1, -1, -1);
            x.wear(0, 0, 1, 3, s);
            told("slack since " + s, x, 0, 4, 1, 1, -1, -1, -1);
        }
        x.wear(0, 0, 0, 3, 2);
        DUE.is("since its last tick", x.suspects(0, 0, 0, 2), 0);
    }

    /** "its PAINT alone would be just as with the WEAR that there is": what lies there does not count. */
    private static void itsPaintAlone() {
        LedArms x = Use.painter();
        Use.tape(x, 0, 1, 0, 3, 6);
        x.wear(0, 0, 1, 1, 0);
        int number = x.suspects(0, 0, 0, 0);
        String before = Use.state(x);
        x.suspects(0, 100, 200, 3);
        DUE.same("it lays nothing", Use.state(x), before);
        x.play(0, 0, 0);
        x.play(0, 0, 1000);
        DUE.is("with paint", x.suspects(0, 0, 0, 0), number);
        x.clean();
        DUE.is("without", x.suspects(0, 0, 0, 0), number);
    }

    /** The PAINT is compared, SPOT by SPOT, not which TICK laid it. */
    private static void paintNotTicks() {
        LedArms x = Use.painter();
        Use.tape(x, 0, 1, 0, 3, 0, 3);
        x.wear(0, 0, 0, 1, 0);
        // 0 0 3 0: lag 1 since 0, 1 and 3 (0 3 0 0), lag 2 since 0, 1 (0 0 0 3), lag 3 since 2, 3 (0 3 0 0),
        // slack 3 since 1, 2 (0 3 0 0); slack 1 and 2 go to 2 and 1
        told("moved paint", x, 0, 9, 1, 0, 0, 0, 3);
        x.wear(0, 0, 0, 0, 0);
        // as told: two on each; lag 1 since 2: 0 3 3 0; lag 2 since 2, 3: 0 3 0 3; slacks since 3
        told("as told", x, 0, 7, 1, 1, -1, -1, -1);
    }

    /** "(no SPOT: it is lost)": what is lost can't be told from what is lost elsewhere. */
    private static void lostPaintIsNone() {
        LedArms x = Use.painter();
        Use.tape(x, 0, 5, 0, 3, 6);
        x.wear(0, 0, 0, 2, 0);
        DUE.is("on the face none is not among them", x.suspects(0, 0, 0, 2), 0);
        DUE.is("all lost", x.suspects(0, 0, 20000, 0), 1 + 18);
        DUE.is("all lost, none too", x.suspects(0, 0, 20000, 2), 1);
        // lost at the left: x less 7000: 9 6 2 as told are 2, lost, lost; with the lag 2 2 2
        DUE.is("some lost", x.suspects(0, 0, 7000, 2), 0);
        // x less 10000: lost whatever it is
        DUE.is("just all lost", x.suspects(0, 0, 9001, 0), 1 + 18);
        DUE.is("not all lost", x.suspects(0, 0, 9000, 2), 0);
    }

    /** PAINT is SPRAY times NOZZLE by 10, cut. */
    private static void nozzleAndSprayCount() {
        LedArms x = Use.painter();
        x.tape(0);
        x.lead(0, 0, 4);
        x.lead(0, 3, 4);
        x.wear(0, 0, 0, 1, 0);
        DUE.is("nozzle 10", x.suspects(0, 0, 0, 2), 0);
        x.nozzle(2);
        DUE.is("4 times 2 by 10 is 0", x.suspects(0, 0, 0, 2), 1);
        DUE.is("all of them", x.suspects(0, 0, 0, 0), 13);
        x.nozzle(3);
        DUE.is("4 times 3 by 10 is 1", x.suspects(0, 0, 0, 2), 0);
        x.nozzle(0);
        DUE.is("nozzle 0", x.suspects(0, 0, 0, 0), 13);
    }

    /** PAINT on SPOT 0 0 is compared as all other is, each time anew. */
    private static void theCornerSpotIsASpot() {
        LedArms x = new LedArms();
        Use.arm(x, 4, 0, 4, 0, 15, 3);
        // 8: 0 0; 5: 2468 3696
        Use.tape(x, 0, 1, 8, 5);
        x.wear(0, 0, 0, 1, 0);
        // 8 8: both on the corner: each lag, since 0 or 1; slack goes down at once
        told("two on the corner", x, 0, 6, 1, 0, 0, 0, 1);
        x.wear(0, 0, 0, 0, 0);
        // one on it: as told, and each slack
        told("one on the corner", x, 0, 7, 1, 1, -1, -1, -1);
        LedArms y = new LedArms();
        Use.arm(y, 4, 0, 4, 0, 15, 3);
        // 0: 8 0, 3: 5532, 2: 6828, 1: 7696; by an offset of 8000 all but 0 are lost
        Use.tape(y, 0, 1, 0, 3);
        y.wear(0, 0, 0, 1, 0);
        int[] due = {7, 1, 0, 0, 0, 1};
        for (int what = 0; what < 6; what++) {
            DUE.is("the corner alone, what " + what, y.suspects(0, 0, 8000, what), due[what]);
        }
    }

    /** A JOINT at its low and at its high end lays PAINT as everywhere. */
    private static void jointsAtTheirEnds() {
        int[][] ends = {{0, 15}, {2, 8}, {6, 12}, {9, 15}};
        for (int[] e : ends) {
            LedArms x = new LedArms();
            Use.arm(x, 8, 8, 4, e[0], e[1], 3);
            int low = e[0];
            int high = e[1];
            Use.tape(x, 0, 1, low, low + 3, low, low);
            DUE.is("none is among them at " + low, x.suspects(0, 0, 0, 2), 1);
            Use.tape(x, 0, 1, high - 3, high);
            // at tick 1: as told, slacks since 1; a lag has high less 3, slacks since 0 have less
            told("up to " + high, x, 1, 4, 1, 1, -1, -1, -1);
            x.wear(0, 0, 1, 3, 0);
            // high less 3 twice: lags since 0 and 1, slack 3 since 0
            told("not up to " + high, x, 1, 7, 1, 0, 0, 0, 1);
            Use.tape(x, 0, 1, low + 3, low);
            x.wear(0, 0, 0, 2, 1);
            // low and 3 twice: lags since 0 and 1
            told("not down to " + low, x, 2, 6, 1, 0, 0, 0, 1);
        }
    }

    /** "SURE: just one JOINT is among them, and not none." */
    private static void sureIfOneJointAndNotNone() {
        LedArms x = new LedArms();
        Use.arm(x, 5, 5, 4, 0, 15, 3, 1, 0, 15, 3);
        // joint 0 moves alone: joint 1's wears are as none
        x.tape(0);
        x.lead(0, 0, 0);
        x.lead(0, 3, 1);
        told("none, and both joints", x, 0, 1 + 3 + 12, 3, 1, -1, -1, -1);
        x.wear(0, 0, 0, 1, 0);
        // at 0: lags since 0 and 1, slack 3 since 0
        told("joint 0 alone", x, 0, 7, 1, 0, 0, 0, 1);
        x.wear(0, 1, 0, 1, 0);
        told("a wear of joint 1 that does nothing", x, 0, 16, 3, 1, -1, -1, -1);
        LedArms y = new LedArms();
        Use.arm(y, 5, 5, 2, 0, 15, 3, 2, 0, 15, 3);
        // from 0 and 0 to 1 and 15: directions 1 and 0; a lag of joint 0: 0 and 15, of joint 1: 1 and 1
        y.tape(0);
        y.lead(0, 0, 0);
        y.lead(0, 1 + 16, 1);
        y.wear(0, 0, 0, 1, 1);
        // told 5 and 2 times 924 and 707, 5 and 2 times 383 and 707: 8262 7180; lag of 0: 0 1: 8848 5766; of 1: 1 1: 8696 6532
        DUE.is("bits of joint 0", y.suspects(0, 0, 0, 1), 1);
        // within one column: x less 8000 is 0 for all of them; y tells 7, 5, 6
        DUE.is("sure", y.suspects(0, 0, 8000, 3), 0);
        y.wear(0, 1, 0, 1, 1);
        DUE.is("bits of joint 1", y.suspects(0, 0, 0, 1), 2);
        DUE.is("sure of joint 1", y.suspects(0, 0, 0, 3), 1);
        twoJointsWithoutNone();
    }

    /** Both joints among them, and not none: it is not sure. */
    private static void twoJointsWithoutNone() {
        LedArms x = new LedArms();
        Use.arm(x, 5, 5, 1, 0, 15, 3, 3, 0, 15, 3);
        x.tape(0);
        x.lead(0, 0, 0);
        x.lead(0, 3 + 16 * 3, 1);
        // told directions 3 6: 5000 and 383 less 2121: 3262 8045; a lag of joint 0: 0 3: 7149 7772; of joint 1: 3 3: 6532 8696
        x.wear(0, 0, 0, 1, 1);
        DUE.is("joint 0", x.suspects(0, 0, 0, 1), 1);
        // x less 7200: both are lost, and what is told too
        DUE.is("lost", x.suspects(0, 0, 7200, 2), 1);
        // x and 8500: told 11762, joint 0 15649, joint 1 15032 (8 and 7 up): y differs
        DUE.is("sure by y", x.suspects(0, 0, -8500, 3), 0);
        // x and 9500: joint 0 at 16649 and joint 1 at 16032 are lost, what is told, 12762, is not
        told9500(x);
    }

    private static void told9500(LedArms x) {
        int[] due = {0, 3, 0, -1, -1, -1};
        for (int what = 1; what < 6; what++) {
            DUE.is("two joints, what " + what, x.suspects(0, 0, -9500, what), due[what]);
        }
    }

    /** "4: the least T of that JOINT's, 5: the greatest (NONE, if it isn't SURE)" */
    private static void theLeastAndTheGreatestT() {
        LedArms x = Use.painter();
        // it stays at 0 till tick 36 and goes on by 3 each tick; paint at the end alone
        x.tape(0);
        for (int i = 0; i < 40; i++) {
            x.lead(0, Math.max(0, 3 * (i - 36)), i == 39 ? 1 : 0);
        }
        x.wear(0, 0, 0, 3, 39);
        // at 0: lag 3 since 0 .. 39; slack can't be
        told("lag 3", x, 0, 40, 1, 0, 0, 0, 39);
        x.wear(0, 0, 1, 3, 20);
        // at 6: slack 3 since 0 .. 38; lag 1 since 0 .. 39
        told("slack 3", x, 0, 39 + 40, 1, 0, 0, 0, 39);
        x.wear(0, 0, 1, 2, 38);
        // at 7: slack 2 since 0 .. 38
        told("slack 2", x, 0, 39, 1, 0, 0, 0, 38);
        LedArms y = Use.painter();
        Use.tape(y, 0, 1, 0, 3, 6, 9);
        y.wear(0, 0, 1, 1, 2);
        // 0 3 6 8 by no other one
        told("since 2 alone", y, 0, 1, 1, 0, 0, 2, 2);
    }

    /** "1: JOINTS among them (bits)" */
    private static void jointsAsBits() {
        for (int moves = 0; moves < 3; moves++) {
            LedArms x = new LedArms();
            Use.arm(x, 5, 5, 4, 0, 15, 3, 3, 0, 15, 3, 3, 0, 15, 3);
            x.tape(0);
            x.lead(0, 0, 0);
            x.lead(0, 3 << 4 * moves, 1);
            told("joint " + moves + " moves", x, 0, 1 + 24 + 3, 7, 1, -1, -1, -1);
            x.wear(0, moves, 0, 1, 0);
            told("joint " + moves + " lags", x, 0, 7, 1 << moves, 0, moves, 0, 1);
        }
    }

    /** WEAR is of an ARM: each TAPE has that of its own. */
    private static void wearOfTheTapesArm() {
        LedArms x = Use.painter();
        Use.arm(x, 5, 5, 4, 0, 15, 3);
        Use.tape(x, 0, 1, 0, 3);
        Use.tape(x, 1, 1, 0, 3);
        x.wear(1, 0, 0, 1, 0);
        DUE.is("arm 0 has none", x.suspects(0, 0, 0, 2), 1);
        DUE.is("arm 1 has", x.suspects(1, 0, 0, 2), 0);
    }

    /** "-2: no such ones." */
    private static void noSuchSuspects() {
        LedArms x = Use.painter();
        Use.tape(x, 0, 1, 0, 3);
        int[][] bad = {{-1, 0, 0, 0}, {1, 0, 0, 0}, {10, 0, 0, 0}, {Integer.MAX_VALUE, 0, 0, 0}, {0, -2001, 0, 0},
            {0, 2001, 0, 0}, {0, 0, -20001, 0}, {0, 0, 20001, 0}, {0, 0, 0, -1}, {0, 0, 0, 6}, {0, 0, 0, Integer.MIN_VALUE}};
        for (int[] b : bad) {
            DUE.is("suspects " + Arrays.toString(b), x.suspects(b[0], b[1], b[2], b[3]), -2);
        }
        int[][] fine = {{0, -2000, 0, 2}, {0, 2000, 0, 2}, {0, 0, -20000, 2}, {0, 0, 20000, 2}};
        for (int[] f : fine) {
            DUE.is("suspects " + Arrays.toString(f), x.suspects(f[0], f[1], f[2], f[3]), 1);
        }
    }

    private static void cut(String when, LedArms x, int bar, int from, int to) {
        DUE.is(when + ", from", x.anew(0, 0, 0, bar, 0), from);
        DUE.is(when + ", to", x.anew(0, 0, 0, bar, 1), to);
    }

    /** "bar (1 .. 99)" */
    private static void barsAreFrom1To99() {
        LedArms x = Use.painter();
        Use.tape(x, 0, 9, 0, 0, 0, 0, 0, 0, 0, 0, 0, 0, 0);
        cut("bar 1", x, 1, 0, 0);
        cut("bar 99", x, 99, 0, 10);
        int[] bad = {0, 100, -1, Integer.MIN_VALUE, Integer.MAX_VALUE};
        for (int bar : bad) {
            cut("bar " + bar, x, bar, -1, -1);
        }
    }

    /** "SPOTS on which there is less PAINT than bar" */
    private static void lessPaintThanBar() {
        for (int there = 0; there <= 9; there++) {
            LedArms x = Use.painter();
            Use.tape(x, 0, 5, 0);
            x.play(Use.tape(x, 0, there, 0), 0, 0);
            boolean missing = there < 5;
            cut("there is " + there + " of bar 5", x, 5, missing ? 0 : -2, missing ? 0 : -2);
        }
    }

    /** "but on which the TAPE played without WEAR lays as much at least" */
    private static void laysAsMuchAtLeast() {
        for (int bar = 1; bar <= 9; bar++) {
            LedArms x = Use.painter();
            Use.tape(x, 0, 2, 0, 3, 0);
            // 4 on one spot, 2 on the other
            cut("bar " + bar, x, bar, bar <= 4 ? 0 : -2, bar <= 2 ? 1 : bar <= 4 ? 2 : -2);
        }
        LedArms y = Use.painter();
        Use.tape(y, 0, 4, 0);
        y.play(0, 0, 0);
        // 4 are there and 4 would come, but it does not lay 5 by itself
        cut("bar 5", y, 5, -2, -2);
    }

    /** "so much that with what is there bar is reached" */
    private static void withWhatIsThereBarIsReached() {
        int[] to = {3, 3, 2, 2, 1, 1, 0, 0, -2, -2};
        for (int there = 0; there <= 9; there++) {
            LedArms x = Use.painter();
            Use.tape(x, 0, 2, 0, 0, 0, 0);
            x.play(Use.tape(x, 0, there, 0), 0, 0);
            cut("there is " + there + " of bar 8", x, 8, to[there] < 0 ? -2 : 0, to[there]);
        }
    }

    /** "the shortest cut (from .. to)" */
    private static void theShortestCut() {
        LedArms x = Use.painter();
        x.tape(0);
        int[] poses = {0, 0, 3, 6, 3, 0, 0};
        int[] sprays = {1, 1, 0, 3, 0, 1, 3};
        for (int i = 0; i < poses.length; i++) {
            x.lead(0, poses[i], sprays[i]);
        }
        // 0: 6 and 6: 3
        cut("bar 1", x, 1, 1, 3);
        cut("bar 3", x, 3, 3, 6);
        cut("bar 4", x, 4, 5, 6);
        cut("bar 5", x, 5, 1, 6);
        cut("bar 6", x, 6, 0, 6);
        cut("bar 7", x, 7, -2, -2);
    }

    /** "of several the first" */
    private static void ofSeveralTheFirst() {
        LedArms x = Use.painter();
        Use.tape(x, 0, 5, 0, 3, 0, 3, 0);
        cut("any two", x, 5, 0, 1);
        LedArms y = Use.painter();
        Use.tape(y, 0, 1, 0, 0, 0, 0);
        cut("any one", y, 1, 0, 0);
        cut("any two", y, 2, 0, 1);
        cut("any three", y, 3, 0, 2);
        cut("all", y, 4, 0, 3);
    }

    /** A TAPE of 40 TICKS, whole or its last TICK alone. */
    private static void allOfTheTape() {
        LedArms x = Use.painter();
        x.tape(0);
        for (int i = 0; i < 40; i++) {
            x.lead(0, 0, i == 0 || i == 39 ? 9 : 0);
        }
        cut("both ends", x, 18, 0, 39);
        cut("one end", x, 9, 0, 0);
        LedArms y = Use.painter();
        y.tape(0);
        for (int i = 0; i < 40; i++) {
            y.lead(0, 0, i == 39 ? 9 : 0);
        }
        cut("the last tick", y, 9, 39, 39);
    }

    /** "that, without WEAR, lays on each of these" */
    private static void withoutWear() {
        LedArms x = Use.painter();
        Use.tape(x, 0, 1, 0, 3, 6);
        x.wear(0, 0, 0, 3, 0);
        cut("a wear", x, 1, 0, 2);
        x.play(0, 0, 0);
        // 3 lie on the first spot
        cut("what the wear left out", x, 1, 1, 2);
    }

    /** "(its TICKS at their times)" */
    private static void ticksAtTheirTimes() {
        LedArms x = Use.painter();
        Use.tape(x, 0, 1, 0, 0, 0, 0);
        // 9 8 7 6, of which 9 and 8 have some
        x.play(Use.tape(x, 0, 1, 0, 0), 1000, 0);
        DUE.is("from", x.anew(0, 1000, 0, 1, 0), 2);
        DUE.is("to", x.anew(0, 1000, 0, 1, 1), 3);
        // an offset of -1000: 10 9 8 7: 10 and 7 are missing
        DUE.is("from, with an offset", x.anew(0, 1000, -1000, 1, 0), 0);
        DUE.is("to, with an offset", x.anew(0, 1000, -1000, 1, 1), 3);
        DUE.is("nothing, without a drift", x.anew(0, 0, 0, 1, 0), -2);
    }

    /** "-2: nothing is missing" */
    private static void nothingIsMissing() {
        LedArms x = Use.painter();
        x.tape(0);
        cut("an empty tape", x, 1, -2, -2);
        x.lead(0, 0, 0);
        cut("a dry one", x, 1, -2, -2);
        x.lead(0, 0, 9);
        x.nozzle(1);
        cut("a nozzle of 1", x, 1, -2, -2);
        x.nozzle(10);
        DUE.is("all is lost", x.anew(0, 0, 20000, 1, 0), -2);
        cut("now it is missing", x, 9, 1, 1);
        x.play(0, 0, 0);
        cut("now it is there", x, 9, -2, -2);
    }

    /** SPOT 0 0 is one of those on which PAINT may be missing, each time anew. */
    private static void theCornerMayBeMissing() {
        LedArms x = new LedArms();
        Use.arm(x, 4, 0, 4, 0, 15, 3);
        // 8: 0 0
        Use.tape(x, 0, 3, 8, 5, 8);
        cut("bar 3", x, 3, 0, 1);
        cut("bar 6", x, 6, 0, 2);
        cut("bar 9", x, 9, -2, -2);
        x.play(0, 0, 0);
        cut("6 are there", x, 6, -2, -2);
        cut("none is missing", x, 3, -2, -2);
        x.clean();
        x.play(0, 1000, 0);
        // 0 0, 1468 3696, -2000: 3 on the corner, 3 on 1 3, one lost
        cut("3 of 6", x, 6, 0, 0);
    }

    /** "NONE: no such ones." */
    private static void noSuchCut() {
        LedArms x = Use.painter();
        Use.tape(x, 0, 1, 0, 3);
        int[][] bad = {{-1, 0, 0, 1, 0}, {1, 0, 0, 1, 0}, {10, 0, 0, 1, 0}, {Integer.MIN_VALUE, 0, 0, 1, 0}, {0, -2001, 0, 1, 0},
            {0, 2001, 0, 1, 0}, {0, 0, -20001, 1, 0}, {0, 0, 20001, 1, 0}, {0, 0, 0, 0, 0}, {0, 0, 0, 100, 0}, {0, 0, 0, 1, -1},
            {0, 0, 0, 1, 2}, {0, 0, 0, 99, 2}};
        for (int[] b : bad) {
            DUE.is("anew " + Arrays.toString(b), x.anew(b[0], b[1], b[2], b[3], b[4]), -1);
        }
        int[][] fine = {{0, -2000, 0, 1, 0}, {0, 2000, 0, 1, 0}, {0, 0, -20000, 1, -2}, {0, 0, 20000, 1, -2}};
        for (int[] f : fine) {
            DUE.is("anew " + Arrays.toString(f), x.anew(f[0], f[1], f[2], f[3], 0), f[4]);
        }
    }
}
