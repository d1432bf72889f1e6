import java.util.Arrays;

/** The edges that the document names for playing, paint and wear (promises 13 to 17, 24). */
public final class EdgesOfPaintTest {
    private static final Due DUE = new Due("EdgesOfPaintTest");

    public static void main(String[] args) {
        spotsAre16By16();
        noSpotItIsLost();
        cellsAreCutDownwards();
        driftsAndOffsetsHaveEnds();
        driftIsTimesTheTickFrom0On();
        playingNoSuchTape();
        nozzlesAreFrom0To30();
        sprayTimesNozzleBy10Cut();
        paintOfNoSuchSpot();
        thickFromTo();
        thickOfNoSuchOnes();
        asMuchAsTheLeast();
        theLeastMayComeLater();
        allCornersCount();
        allPaintIsTakenOff();
        wearIsWithinItsEnds();
        aRefusedWearLeavesTheWear();
        sizeZeroIsNone();
        lagsOfAllSizes();
        notSoManyTicksAhead();
        lagFromTOn();
        slackOfAllSizes();
        slackGoesToTheNearerEnd();
        slackAtTIsAsTold();
        wearIsOfOneJointAndOneArm();
        DUE.end();
    }

    /** "16 by 16 SPOTS": the tip is brought on each of them by the base and the offset. */
    private static void spotsAre16By16() {
        for (int y = 0; y < 16; y++) {
            LedArms x = new LedArms();
            Use.arm(x, 10, y, 1, 0, 0, 1);
            int t = Use.tape(x, 0, 1 + y % 9, 0);
            for (int spot = -1; spot <= 16; spot++) {
                boolean there = spot >= 0 && spot <= 15;
                int offset = 11000 - 1000 * spot;
                DUE.is("on " + spot + " " + y, x.play(t, 0, offset), there ? 1 + y % 9 : 0);
                DUE.is("paint on " + spot + " " + y, x.paint(spot, y), there ? 1 + y % 9 : -1);
            }
            DUE.is("on all of the row", x.thick(0, y, 15, y, 0), 1 + y % 9);
            DUE.is("on no other row", x.count(4), 16);
        }
    }

    /** "(no SPOT: it is lost)": on each side, and what comes behind is not. */
    private static void noSpotItIsLost() {
        int[][] bases = {{0, 5, 8}, {5, 0, 12}, {15, 5, 0}, {5, 15, 4}};
        for (int[] b : bases) {
            LedArms x = new LedArms();
            Use.arm(x, b[0], b[1], 1, 0, 15, 3);
            int out = Use.tape(x, 0, 9, b[2]);
            DUE.is("beyond the side at " + b[0] + " " + b[1], x.play(out, 0, 0), 0);
            DUE.is("nothing lies there", x.count(3), 0);
        }
        LedArms y = new LedArms();
        Use.arm(y, 15, 5, 1, 0, 15, 3);
        int t = y.tape(0);
        y.lead(t, 0, 1);
        y.lead(t, 3, 2);
        y.lead(t, 0, 4);
        y.lead(t, 3, 8);
        DUE.is("ticks 1 and 3 come on a spot", y.play(t, 0, 0), 10);
        DUE.is("that one", y.paint(15, 5), 10);
        LedArms far = new LedArms();
        Use.arm(far, 20, 20, 6, 0, 15, 3, 6, 0, 15, 3, 6, 0, 15, 3);
        DUE.is("far beyond", far.play(Use.tape(far, 0, 9, 0, 2, 4), -2000, -20000), 0);
    }

    /** "CELL of a point: x and y by 1000, cut downwards" */
    private static void cellsAreCutDownwards() {
        LedArms x = Use.painter();
        int t = Use.tape(x, 0, 1, 0);
        // the tip is at 9000 5000
        int[] offsets = {9000, 9001, 9999, 10000, 8001, 8000, 1, 0, -1, -6999, -7000};
        int[] spots = {0, -1, -1, -1, 0, 1, 8, 9, 9, 15, -1};
        for (int i = 0; i < offsets.length; i++) {
            x.clean();
            DUE.is("offset " + offsets[i], x.play(t, 0, offsets[i]), spots[i] < 0 ? 0 : 1);
            DUE.is("offset " + offsets[i] + "'s spot", x.paint(spots[i], 5), spots[i] < 0 ? -1 : 1);
        }
        LedArms y = new LedArms();
        Use.arm(y, 5, 1, 1, 8, 15, 3);
        // y is 1000 less 924: still row 0; then just 0
        DUE.is("y of 76", y.play(Use.tape(y, 0, 1, 13), 0, 0), 1);
        DUE.is("y of 0", y.play(Use.tape(y, 0, 1, 12), 0, 0), 1);
        DUE.is("in row 0", y.thick(0, 0, 15, 0, 2), 2);
        LedArms z = new LedArms();
        Use.arm(z, 5, 0, 1, 8, 15, 3);
        DUE.is("y of -383 is not row 0", z.play(Use.tape(z, 0, 1, 9), 0, 0), 0);
        LedArms w = new LedArms();
        Use.arm(w, 0, 5, 1, 0, 15, 3);
        DUE.is("x of -383 is not column 0", w.play(Use.tape(w, 0, 1, 5), 0, 0), 0);
    }

    /** "a DRIFT (-2000 .. 2000 thousandths a TICK) and an OFFSET (-20000 .. 20000)" */
    private static void driftsAndOffsetsHaveEnds() {
        LedArms x = Use.painter();
        int t = Use.tape(x, 0, 1, 0);
        int[] drifts = {-2000, 2000, -2001, 2001, Integer.MIN_VALUE, Integer.MAX_VALUE};
        int[] offsets = {-20000, 20000, -20001, 20001, Integer.MIN_VALUE, Integer.MAX_VALUE};
        for (int i = 0; i < 6; i++) {
            boolean fine = i < 2;
            DUE.is("drift " + drifts[i], x.play(t, drifts[i], 0), fine ? 1 : -1);
            DUE.is("offset " + offsets[i], x.play(t, 0, offsets[i]), fine ? 0 : -1);
            DUE.is("drift " + drifts[i] + ", suspects", x.suspects(t, drifts[i], 0, 2), fine ? 1 : -2);
            DUE.is("offset " + offsets[i] + ", suspects", x.suspects(t, 0, offsets[i], 2), fine ? 1 : -2);
            DUE.is("drift " + drifts[i] + ", anew", x.anew(t, drifts[i], 0, 99, 0), fine ? -2 : -1);
            DUE.is("offset " + offsets[i] + ", anew", x.anew(t, 0, offsets[i], 99, 0), fine ? -2 : -1);
        }
        DUE.is("only two came on a spot", x.count(3), 2);
    }

    /** "at TICK t (from 0 on) .. x less OFFSET less DRIFT times t" */
    private static void driftIsTimesTheTickFrom0On() {
        LedArms x = Use.painter();
        int t = Use.tape(x, 0, 1, 0, 0, 0, 0, 0);
        // 9 7 5 3 1, then 9 11 13 15 and lost
        DUE.is("2000", x.play(t, 2000, 0), 5);
        DUE.is("its first and last", x.paint(9, 5) + x.paint(1, 5), 2);
        x.clean();
        DUE.is("-2000", x.play(t, -2000, 0), 4);
        DUE.is("its first and last", x.paint(9, 5) + x.paint(15, 5), 2);
        x.clean();
        DUE.is("2000, from the right", x.play(t, 2000, -8000), 4);
        // 17 is lost, 15 13 11 9
        DUE.is("its first and last", x.paint(15, 5) + x.paint(9, 5), 2);
        LedArms y = Use.painter();
        y.tape(0);
        for (int i = 0; i < 40; i++) {
            y.lead(0, 0, i == 39 ? 1 : 0);
        }
        // 9000 and 15000 less 39 times 500 is 4500
        DUE.is("tick 39", y.play(0, 500, -15000), 1);
        DUE.is("its spot", y.paint(4, 5), 1);
    }

    /** "NONE: no such ones." */
    private static void playingNoSuchTape() {
        LedArms x = Use.painter();
        int[] none = {-1, 0, 10, Integer.MIN_VALUE, Integer.MAX_VALUE};
        for (int tape : none) {
            DUE.is("play " + tape, x.play(tape, 0, 0), -1);
        }
        x.tape(0);
        DUE.is("an empty one", x.play(0, 0, 0), 0);
        DUE.is("no tape 1", x.play(1, 0, 0), -1);
    }

    /** "NOZZLE (0 .. 30; 10 at first)" */
    private static void nozzlesAreFrom0To30() {
        for (int of10 = -2; of10 <= 33; of10++) {
            LedArms x = new LedArms();
            boolean fine = of10 >= 0 && of10 <= 30;
            DUE.is("nozzle " + of10, x.nozzle(of10), fine);
            DUE.is("then it is", x.count(5), fine ? of10 : 10);
        }
        LedArms y = new LedArms();
        DUE.is("far below", y.nozzle(Integer.MIN_VALUE), false);
        DUE.is("far beyond", y.nozzle(Integer.MAX_VALUE), false);
        DUE.is("it is 10", y.count(5), 10);
    }

    /** "its SPRAY times NOZZLE (..) by 10, cut" */
    private static void sprayTimesNozzleBy10Cut() {
        for (int of10 = 0; of10 <= 30; of10++) {
            LedArms x = Use.painter();
            x.nozzle(of10);
            for (int spray = 0; spray <= 9; spray++) {
                int t = Use.tape(x, 0, spray, 0);
                int due = 0;
                while ((due + 1) * 10 <= spray * of10) {
                    due++;
                }
                DUE.is("spray " + spray + " by nozzle " + of10, x.play(t, 0, 0), due);
            }
        }
        LedArms y = Use.painter();
        y.nozzle(11);
        // 9 times 11 by 10 is 9 at each tick, not 19 of two
        DUE.is("each tick is cut", y.play(Use.tape(y, 0, 9, 0, 0), 0, 0), 18);
    }

    /** "PAINT; NONE: no such SPOT." */
    private static void paintOfNoSuchSpot() {
        LedArms x = new LedArms();
        for (int v = -2; v <= 17; v++) {
            int due = v >= 0 && v <= 15 ? 0 : -1;
            int[] others = {0, 15};
            for (int other : others) {
                DUE.is("paint " + v + " " + other, x.paint(v, other), due);
                DUE.is("paint " + other + " " + v, x.paint(other, v), due);
            }
        }
        // no number beside the face stands for a spot of another row
        DUE.is("paint 16 -1", x.paint(16, -1), -1);
        DUE.is("paint -16 1", x.paint(-16, 1), -1);
        DUE.is("paint 0 " + (1 << 28), x.paint(0, 1 << 28), -1);
        DUE.is("paint far beyond", x.paint(Integer.MAX_VALUE, Integer.MIN_VALUE), -1);
    }

    /** "Of the SPOTS from x, y to u, v": both of them too. */
    private static void thickFromTo() {
        LedArms x = Use.painter();
        x.play(Use.tape(x, 0, 3, 0), 0, 0);
        // 3 on 9 5
        int[][] with = {{9, 5, 9, 5}, {0, 0, 9, 5}, {9, 5, 15, 15}, {9, 0, 9, 15}, {0, 5, 15, 5}};
        for (int[] w : with) {
            DUE.is("all of " + Arrays.toString(w), x.thick(w[0], w[1], w[2], w[3], 2), 3);
            DUE.is("the greatest of " + Arrays.toString(w), x.thick(w[0], w[1], w[2], w[3], 1), 3);
        }
        int[][] without = {{0, 0, 8, 15}, {10, 0, 15, 15}, {0, 0, 15, 4}, {0, 6, 15, 15}};
        for (int[] w : without) {
            DUE.is("all of " + Arrays.toString(w), x.thick(w[0], w[1], w[2], w[3], 2), 0);
            DUE.is("the greatest of " + Arrays.toString(w), x.thick(w[0], w[1], w[2], w[3], 1), 0);
        }
        DUE.is("the least of it alone", x.thick(9, 5, 9, 5, 0), 3);
        DUE.is("the least with one beside", x.thick(8, 5, 9, 5, 0), 0);
    }

    /** "(both at most 15, at least x, y)"; "NONE: no such ones." */
    private static void thickOfNoSuchOnes() {
        LedArms x = new LedArms();
        int[][] bad = {{-1, 0, 5, 5, 0}, {0, -1, 5, 5, 0}, {0, 0, 16, 5, 0}, {0, 0, 5, 16, 0}, {3, 0, 2, 5, 0},
            {0, 3, 5, 2, 0}, {16, 0, 16, 5, 0}, {0, 16, 5, 16, 0}, {0, 0, 5, 5, -1}, {0, 0, 5, 5, 4}, {-5, -5, -1, -1, 0},
            {Integer.MIN_VALUE, 0, 5, 5, 0}, {0, 0, Integer.MAX_VALUE, 5, 0}, {0, 0, 5, 5, Integer.MAX_VALUE}};
        for (int[] b : bad) {
            DUE.is("thick " + Arrays.toString(b), x.thick(b[0], b[1], b[2], b[3], b[4]), -1);
            for (int what = 0; what < 4 && b[4] == 0; what++) {
                DUE.is("thick " + Arrays.toString(b) + ", what " + what, x.thick(b[0], b[1], b[2], b[3], what), -1);
            }
        }
        int[][] fine = {{0, 0, 0, 0, 1}, {15, 15, 15, 15, 1}, {0, 0, 15, 15, 256}, {0, 15, 15, 15, 16}, {3, 4, 3, 9, 6}};
        for (int[] f : fine) {
            DUE.is("how many of " + Arrays.toString(f), x.thick(f[0], f[1], f[2], f[3], 3), f[4]);
        }
    }

    /** "3: how many have as much as the least" */
    private static void asMuchAsTheLeast() {
        LedArms x = Use.painter();
        // 9 5: 5, 8 6: 3, 7 7: 3, 6 8: 4
        x.play(Use.tape(x, 0, 3, 0, 1, 2, 3), 0, 0);
        x.play(Use.tape(x, 0, 2, 0), 0, 0);
        x.play(Use.tape(x, 0, 1, 3), 0, 0);
        DUE.is("9 5 alone", x.thick(9, 5, 9, 5, 3), 1);
        DUE.is("with three beside", x.thick(8, 5, 9, 6, 3), 2);
        DUE.is("all", x.thick(0, 0, 15, 15, 3), 252);
        DUE.is("the greatest", x.thick(0, 0, 15, 15, 1), 5);
        DUE.is("all paint", x.thick(0, 0, 15, 15, 2), 15);
    }

    /** The least, and how many have as much, wherever the least is among them. */
    private static void theLeastMayComeLater() {
        LedArms x = Use.painter();
        // 9 5: 5, 8 5: 3, 7 5: 1, 6 5: 1, 5 5: 3
        int[] more = {5, 3, 1, 1, 3};
        for (int i = 0; i < more.length; i++) {
            x.play(Use.tape(x, 0, more[i], 0), 0, 1000 * i);
        }
        int[][] due = {{5, 5, 9, 5, 1, 5, 13, 2}, {5, 5, 5, 5, 3, 3, 3, 1}, {8, 5, 9, 5, 3, 5, 8, 1}, {7, 5, 9, 5, 1, 5, 9, 1},
            {5, 5, 6, 5, 1, 3, 4, 1}, {5, 5, 7, 5, 1, 3, 5, 2}, {9, 5, 10, 5, 0, 5, 5, 1}, {9, 5, 9, 6, 0, 5, 5, 1},
            {9, 5, 12, 6, 0, 5, 5, 7}};
        for (int[] d : due) {
            for (int what = 0; what < 4; what++) {
                DUE.is("thick " + Arrays.toString(d) + ", what " + what, x.thick(d[0], d[1], d[2], d[3], what), d[4 + what]);
            }
        }
    }

    /** "16 by 16 SPOTS": each corner is one of all. */
    private static void allCornersCount() {
        LedArms x = new LedArms();
        Use.arm(x, 10, 0, 1, 0, 0, 1);
        Use.arm(x, 10, 15, 1, 0, 0, 1);
        int[] offsets = {11000, -4000};
        int sum = 0;
        for (int i = 0; i < 4; i++) {
            // tips at 11 0 and 11 15, brought to column 0 and to column 15
            int t = Use.tape(x, i / 2, 1 + i, 0);
            x.play(t, 0, offsets[i % 2]);
            sum += 1 + i;
            DUE.is("paint on all spots", x.count(3), sum);
            DUE.is("spots with some", x.count(4), i + 1);
            DUE.is("all of the whole face", x.thick(0, 0, 15, 15, 2), sum);
            DUE.is("the greatest of the whole face", x.thick(0, 0, 15, 15, 1), 1 + i);
            DUE.is("as much as the least", x.thick(0, 0, 15, 15, 3), 255 - i);
        }
        DUE.is("none lies between them", x.thick(1, 1, 14, 14, 1), 0);
        DUE.is("taken off four", x.clean(), 4);
    }

    /** "All PAINT is taken off: how many SPOTS had some." */
    private static void allPaintIsTakenOff() {
        LedArms x = Use.painter();
        DUE.is("none had", x.clean(), 0);
        x.play(Use.tape(x, 0, 0, 0, 1), 0, 0);
        DUE.is("spray 0 is none", x.clean(), 0);
        x.play(Use.tape(x, 0, 1, 0, 0, 1), 0, 0);
        DUE.is("two had", x.clean(), 2);
        DUE.is("none has", x.count(4), 0);
        DUE.is("nothing is there", x.count(3), 0);
        DUE.is("none had", x.clean(), 0);
        LedArms y = new LedArms();
        Use.arm(y, 1, 0, 1, 8, 8, 1);
        int t = Use.tape(y, 0, 1, 8);
        Use.arm(y, 14, 15, 1, 0, 0, 1);
        int u = Use.tape(y, 1, 1, 0);
        y.play(t, 0, 0);
        y.play(u, 0, 0);
        DUE.is("both corners", y.clean(), 2);
        DUE.is("are bare", y.paint(0, 0) + y.paint(15, 15), 0);
    }

    /** "a JOINT that LAGS by 1 .. 3 TICKS, or has SLACK of 1 .. 3 places, since TICK T (0 .. 39)"; "false: no such ones." */
    private static void wearIsWithinItsEnds() {
        LedArms x = new LedArms();
        Use.arm(x, 5, 5, 1, 0, 15, 1, 1, 0, 15, 1);
        x.arm(5, 5);
        for (int v = -2; v <= 42; v++) {
            DUE.is("joint " + v, x.wear(0, v, 0, 1, 0), v >= 0 && v <= 1);
            DUE.is("kind " + v, x.wear(0, 0, v, 1, 0), v >= 0 && v <= 1);
            DUE.is("size " + v + " of lag", x.wear(0, 0, 0, v, 0), v >= 0 && v <= 3);
            DUE.is("size " + v + " of slack", x.wear(0, 0, 1, v, 0), v >= 0 && v <= 3);
            DUE.is("since " + v, x.wear(0, 0, 0, 1, v), v >= 0 && v <= 39);
            DUE.is("arm " + v, x.wear(v, 0, 0, 1, 0), v == 0);
        }
        int[] far = {Integer.MIN_VALUE, Integer.MAX_VALUE};
        for (int v : far) {
            DUE.is("joint " + v, x.wear(0, v, 0, 1, 0), false);
            DUE.is("kind " + v, x.wear(0, 0, v, 1, 0), false);
            DUE.is("size " + v, x.wear(0, 0, 0, v, 0), false);
            DUE.is("since " + v, x.wear(0, 0, 0, 1, v), false);
            DUE.is("arm " + v, x.wear(v, 0, 0, 1, 0), false);
        }
        DUE.is("an arm without joints", x.wear(1, 0, 0, 0, 0), false);
    }

    /** "false: no such ones", and the WEAR is as it was. */
    private static void aRefusedWearLeavesTheWear() {
        int[][] bad = {{0, 1, 0, 1, 0}, {0, 0, 2, 1, 0}, {0, 0, 0, 4, 0}, {0, 0, 0, 1, 40}, {0, 0, 0, 0, 40}, {1, 0, 0, 1, 0}};
        for (int[] b : bad) {
            LedArms x = Use.painter();
            Use.tape(x, 0, 1, 0, 3, 6);
            x.wear(0, 0, 0, 2, 2);
            DUE.is("wear " + Arrays.toString(b), x.wear(b[0], b[1], b[2], b[3], b[4]), false);
            x.play(0, 0, 0);
            DUE.is("the old wear lays", x.paint(9, 5), 2);
        }
    }

    /** "size 0: none" */
    private static void sizeZeroIsNone() {
        for (int kind = 0; kind < 2; kind++) {
            DUE.same("none of kind " + kind, places(kind, 0, 0, 0, 3, 6, 9), "0 3 6 9");
            LedArms x = Use.painter();
            Use.tape(x, 0, 1, 0, 3, 6);
            x.wear(0, 0, 1 - kind, 3, 0);
            DUE.is("the wear is taken away", x.wear(0, 0, kind, 0, 0), true);
            x.play(0, 0, 0);
            DUE.is("each on its spot", x.count(4), 3);
        }
    }

    /** The places of the painter's joint at each tick, told by the spot that the paint of this tick alone comes on. */
    private static String places(int kind, int size, int since, int... poses) {
        StringBuilder s = new StringBuilder();
        for (int i = 0; i < poses.length; i++) {
            LedArms x = Use.painter();
            x.tape(0);
            for (int j = 0; j < poses.length; j++) {
                x.lead(0, poses[j], j == i ? 1 : 0);
            }
            x.wear(0, 0, kind, size, since);
            x.play(0, 0, 0);
            s.append(i == 0 ? "" : " ").append(painted(x));
        }
        return s.toString();
    }

    private static String painted(LedArms x) {
        for (int d = 0; d < 16; d++) {
            int u = Math.floorDiv(x.point(0, d, 1, 0), 1000);
            int v = Math.floorDiv(x.point(0, d, 1, 1), 1000);
            if (x.paint(u, v) == 1) {
                return Integer.toString(d);
            }
        }
        return "none";
    }

    /** "LAG: from T on its place is that of so many TICKS ahead" */
    private static void lagsOfAllSizes() {
        int[] told = {0, 1, 2, 3, 4, 5};
        DUE.same("lag 1 since 0", places(0, 1, 0, told), "0 0 1 2 3 4");
        DUE.same("lag 2 since 0", places(0, 2, 0, told), "0 0 0 1 2 3");
        DUE.same("lag 3 since 0", places(0, 3, 0, told), "0 0 0 0 1 2");
    }

    /** "(of TICK 0, if there are not so many)" */
    private static void notSoManyTicksAhead() {
        DUE.same("lag 3 since 1", places(0, 3, 1, 5, 6, 7, 8, 9), "5 5 5 5 6");
        DUE.same("lag 3 of two", places(0, 3, 0, 5, 6), "5 5");
        DUE.same("lag 1 of one", places(0, 1, 0, 5), "5");
        DUE.same("lag 2 since 1", places(0, 2, 1, 9, 8, 7, 6), "9 9 9 8");
    }

    /** "from T on" */
    private static void lagFromTOn() {
        int[] told = {0, 1, 2, 3, 4, 5};
        DUE.same("lag 1 since 3", places(0, 1, 3, told), "0 1 2 2 3 4");
        DUE.same("lag 2 since 3", places(0, 2, 3, told), "0 1 2 1 2 3");
        DUE.same("lag 3 since 5", places(0, 3, 5, told), "0 1 2 3 4 2");
        DUE.same("lag 3 since 6", places(0, 3, 6, told), "0 1 2 3 4 5");
        DUE.same("lag 3 since 39", places(0, 3, 39, told), "0 1 2 3 4 5");
    }

    /** "it stays where it is, if that is from SLACK below what the TAPE tells to just that" */
    private static void slackOfAllSizes() {
        int[] up = {0, 1, 2, 3, 4, 5};
        DUE.same("slack 1, up", places(1, 1, 0, up), "0 0 1 2 3 4");
        DUE.same("slack 2, up", places(1, 2, 0, up), "0 0 0 1 2 3");
        DUE.same("slack 3, up", places(1, 3, 0, up), "0 0 0 0 1 2");
        int[] down = {9, 8, 7, 6};
        for (int size = 1; size <= 3; size++) {
            DUE.same("slack " + size + ", down", places(1, size, 0, down), "9 8 7 6");
        }
        DUE.same("just that: it stays", places(1, 2, 0, 5, 7, 5, 7), "5 5 5 5");
        DUE.same("just slack below: it stays", places(1, 3, 0, 4, 7, 7), "4 4 4");
    }

    /** "else it goes to the nearer end of these" */
    private static void slackGoesToTheNearerEnd() {
        DUE.same("slack 1, far up", places(1, 1, 0, 0, 3, 6, 9), "0 2 5 8");
        DUE.same("slack 2, far up", places(1, 2, 0, 0, 3, 6, 9), "0 1 4 7");
        DUE.same("slack 3, up, and down", places(1, 3, 0, 0, 3, 6, 9, 8, 7, 6, 5, 4), "0 0 3 6 6 6 6 5 4");
        DUE.same("slack 1, up and down", places(1, 1, 0, 5, 6, 5, 4, 5, 6), "5 5 5 4 4 5");
        DUE.same("slack 1 at the ends", places(1, 1, 0, 15, 15, 12, 9, 6, 3, 0, 0, 1), "15 15 12 9 6 3 0 0 0");
    }

    /** "SLACK: at T its place is as the TAPE tells" */
    private static void slackAtTIsAsTold() {
        int[] up = {0, 3, 6, 9, 12};
        DUE.same("slack 1 since 1", places(1, 1, 1, up), "0 3 5 8 11");
        DUE.same("slack 2 since 3", places(1, 2, 3, up), "0 3 6 9 10");
        DUE.same("slack 3 since 4", places(1, 3, 4, up), "0 3 6 9 12");
        DUE.same("slack 3 since 5", places(1, 3, 5, up), "0 3 6 9 12");
        DUE.same("slack 3 since 39", places(1, 3, 39, up), "0 3 6 9 12");
    }

    /** "(its other JOINTS as told)"; WEAR is of an ARM. */
    private static void wearIsOfOneJointAndOneArm() {
        LedArms x = new LedArms();
        Use.arm(x, 8, 8, 4, 0, 15, 3, 3, 0, 15, 3, 1, 0, 15, 3);
        Use.arm(x, 8, 8, 4, 0, 15, 3);
        Use.tape(x, 0, 0, 0);
        x.lead(0, 2 + 16 * 2 + 256 * 2, 1);
        int other = Use.tape(x, 1, 0, 0);
        x.lead(other, 2, 1);
        // directions 2 4 6 as told; with joint 0, 1, 2 a tick behind: 0 2 4, 2 2 4, 2 4 4
        int[][] spots = {{8 + 4 + 2, 8 + 3}, {8 + 4, 8 + 5}, {8 + 2, 8 + 6}};
        for (int joint = 0; joint < 3; joint++) {
            x.clean();
            x.wear(0, joint, 0, 1, 0);
            DUE.is("joint " + joint + " lags", x.play(0, 0, 0), 1);
            DUE.is("its spot", x.paint(spots[joint][0], spots[joint][1]), 1);
        }
        x.clean();
        x.play(other, 0, 0);
        DUE.is("the other arm has none", x.paint(8 + 2, 8 + 2), 1);
        x.wear(1, 0, 0, 1, 0);
        x.clean();
        x.play(other, 0, 0);
        DUE.is("now it has", x.paint(12, 8), 1);
        DUE.same("the tape tells as it did", Use.look(x, other, 1, 0), "2");
    }
}
