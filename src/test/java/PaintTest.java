/** Promises 13 to 17 and 24: playing, the nozzle, what lies on the spots, cleaning; wear. */
public final class PaintTest {
    private static final Due DUE = new Due("PaintTest");

    public static void main(String[] args) {
        playing();
        edgesOfTheFace();
        drifting();
        nozzle();
        thick();
        cleaning();
        lagging();
        slack();
        noSuchWear();
        DUE.end();
    }

    private static LedArms painter() {
        LedArms x = new LedArms();
        x.arm(5, 5);
        x.joint(0, 4, 0, 15, 3);
        return x;
    }

    private static void playing() {
        LedArms x = painter();
        int t = Use.tape(x, 0, 4, 0, 0, 3);
        int empty = x.tape(0);
        DUE.is("an empty tape lays nothing", x.play(empty, 0, 0), 0);
        DUE.is("play", x.play(t, 0, 0), 12);
        DUE.is("twice on one spot", x.paint(9, 5), 8);
        DUE.is("once", x.paint(6, 8), 4);
        DUE.is("again", x.play(t, 0, 0), 12);
        DUE.is("it adds up", x.paint(9, 5), 16);
        int[][] bad = {{2, 0, 0}, {-1, 0, 0}, {t, 2001, 0}, {t, -2001, 0}, {t, 0, 20001}, {t, 0, -20001}, {9, 0, 0},
            {t, Integer.MIN_VALUE, 0}, {t, 0, Integer.MAX_VALUE}};
        for (int[] b : bad) {
            DUE.is("play " + java.util.Arrays.toString(b), x.play(b[0], b[1], b[2]), -1);
        }
        DUE.is("they lay nothing", x.count(3), 24);
        int[][] fine = {{2000, 20000}, {-2000, -20000}};
        for (int[] f : fine) {
            DUE.is("the greatest belts", x.play(t, f[0], f[1]), 0);
        }
        int[][] no = {{-1, 0}, {0, -1}, {16, 0}, {0, 16}, {Integer.MIN_VALUE, 0}, {0, Integer.MAX_VALUE}};
        for (int[] n : no) {
            DUE.is("paint " + n[0] + " " + n[1], x.paint(n[0], n[1]), -1);
        }
    }

    private static void edgesOfTheFace() {
        LedArms x = painter();
        int t = Use.tape(x, 0, 1, 0);
        int[] offsets = {9000, 9001, 8001, 8000, -6999, -7000, 0};
        int[] spots = {0, -1, 0, 1, 15, -1, 9};
        for (int i = 0; i < offsets.length; i++) {
            x.clean();
            DUE.is("offset " + offsets[i], x.play(t, 0, offsets[i]), spots[i] < 0 ? 0 : 1);
            DUE.is("offset " + offsets[i] + "'s spot", x.paint(spots[i], 5), spots[i] < 0 ? -1 : 1);
            DUE.is("offset " + offsets[i] + "'s count", x.count(4), spots[i] < 0 ? 0 : 1);
        }
        LedArms low = new LedArms();
        low.arm(5, 1);
        low.joint(0, 1, 12, 15, 3);
        // direction 12: y 0; 13: y 1000 less 924
        DUE.is("the lowest row", low.play(Use.tape(low, 0, 1, 12), 0, 0), 1);
        LedArms lost = new LedArms();
        lost.arm(5, 0);
        lost.joint(0, 1, 0, 15, 3);
        lost.arm(5, 15);
        lost.joint(1, 1, 0, 15, 3);
        DUE.is("below the face", lost.play(Use.tape(lost, 0, 1, 15), 0, 0), 0);
        DUE.is("above the face", lost.play(Use.tape(lost, 1, 1, 4), 0, 0), 0);
        DUE.is("the highest row", lost.play(Use.tape(lost, 1, 1, 3), 0, 0), 1);
        DUE.is("its spot", lost.paint(5, 15), 1);
    }

    private static void drifting() {
        LedArms x = painter();
        int t = Use.tape(x, 0, 1, 0, 0, 0, 0);
        DUE.is("with the belt", x.play(t, 2000, 0), 4);
        int[] right = {9, 7, 5, 3};
        for (int spot : right) {
            DUE.is("spot " + spot, x.paint(spot, 5), 1);
        }
        x.clean();
        DUE.is("against it, with an offset", x.play(t, -1500, -2500), 3);
        // 11500 13000 14500 16000
        DUE.is("11", x.paint(11, 5), 1);
        DUE.is("13", x.paint(13, 5), 1);
        DUE.is("14", x.paint(14, 5), 1);
        x.clean();
        x.play(t, 1, 0);
        DUE.is("a thousandth less is the spot ahead", x.paint(8, 5), 3);
    }

    private static void nozzle() {
        LedArms x = painter();
        int t = Use.tape(x, 0, 7, 0, 3);
        DUE.is("nozzle 15", x.nozzle(15), true);
        DUE.is("7 times 15 by 10, cut, twice", x.play(t, 0, 0), 20);
        DUE.is("nozzle -1", x.nozzle(-1), false);
        DUE.is("nozzle 31", x.nozzle(31), false);
        DUE.is("it stays", x.count(5), 15);
        DUE.is("nozzle 30", x.nozzle(30), true);
        DUE.is("thrice", x.play(t, 0, 0), 42);
        DUE.is("nozzle 1", x.nozzle(1), true);
        DUE.is("7 by 10, cut", x.play(t, 0, 0), 0);
        DUE.is("nozzle 0", x.nozzle(0), true);
        DUE.is("nothing", x.play(t, 0, 0), 0);
        DUE.is("nozzle is 0", x.count(5), 0);
    }

    private static void thick() {
        LedArms x = painter();
        x.play(Use.tape(x, 0, 4, 0, 0, 3), 0, 0);
        x.play(Use.tape(x, 0, 3, 8), 0, 0);
        // 8 on 9 5, 4 on 6 8, 3 on 1 5
        int[] due = {0, 8, 15, 253};
        for (int i = 0; i < 4; i++) {
            DUE.is("all, what " + i, x.thick(0, 0, 15, 15, i), due[i]);
        }
        int[] one = {8, 8, 8, 1};
        for (int i = 0; i < 4; i++) {
            DUE.is("one spot, what " + i, x.thick(9, 5, 9, 5, i), one[i]);
        }
        DUE.is("a row", x.thick(1, 5, 9, 5, 2), 11);
        DUE.is("a corner", x.thick(15, 15, 15, 15, 3), 1);
        int[][] bad = {{-1, 0, 5, 5, 0}, {0, -1, 5, 5, 0}, {0, 0, 16, 5, 0}, {0, 0, 5, 16, 0}, {6, 0, 5, 5, 0}, {0, 0, 16, 15, 1}, {0, 0, 15, 16, 2}, {0, 0, 15, 16, 3},
            {0, 6, 5, 5, 0}, {0, 0, 5, 5, 4}, {0, 0, 5, 5, -1}, {16, 16, 16, 16, 0}, {0, 0, Integer.MAX_VALUE, 5, 0}};
        for (int[] b : bad) {
            DUE.is("thick " + java.util.Arrays.toString(b), x.thick(b[0], b[1], b[2], b[3], b[4]), -1);
        }
    }

    private static void cleaning() {
        LedArms x = painter();
        int t = Use.tape(x, 0, 4, 0, 0, 3);
        x.play(t, 0, 0);
        DUE.is("two spots", x.clean(), 2);
        DUE.is("no paint", x.count(3), 0);
        DUE.is("nothing to clean", x.clean(), 0);
        DUE.is("tapes stay", x.play(t, 0, 0), 12);
    }

    /** Spots of directions 0, 3, 6, 9 for the painter: 9 5, 6 8, 2 7, 1 3. */
    private static void spots(String what, LedArms x, int d0, int d3, int d6, int d9) {
        DUE.is(what + ", direction 0", x.paint(9, 5), d0);
        DUE.is(what + ", direction 3", x.paint(6, 8), d3);
        DUE.is(what + ", direction 6", x.paint(2, 7), d6);
        DUE.is(what + ", direction 9", x.paint(1, 3), d9);
    }

    private static void lagging() {
        LedArms x = painter();
        int t = Use.tape(x, 0, 1, 0, 3, 6, 9, 9);
        x.play(t, 0, 0);
        spots("no wear", x, 1, 1, 1, 2);
        int[][] wears = {{1, 0}, {2, 1}, {3, 0}, {3, 3}, {1, 4}, {1, 5}, {3, 39}, {0, 0}};
        int[][] due = {{2, 1, 1, 1}, {3, 1, 1, 0}, {4, 1, 0, 0}, {2, 2, 1, 0}, {1, 1, 1, 2}, {1, 1, 1, 2}, {1, 1, 1, 2},
            {1, 1, 1, 2}};
        for (int i = 0; i < wears.length; i++) {
            int[] d = due[i];
            x.clean();
            DUE.is("wear", x.wear(0, 0, 0, wears[i][0], wears[i][1]), true);
            x.play(t, 0, 0);
            spots("lag " + wears[i][0] + " since " + wears[i][1], x, d[0], d[1], d[2], d[3]);
        }
    }

    private static void slack() {
        LedArms x = painter();
        // with slack 3 since 0 it is at 0 0 3 6 6, then told 6: it may stay; told 3: it goes down to 3, told 0: 0
        int t = Use.tape(x, 0, 1, 0, 3, 6, 9, 9, 6, 3, 0);
        x.wear(0, 0, 1, 3, 0);
        x.play(t, 0, 0);
        spots("slack 3 since 0", x, 3, 2, 3, 0);
        x.clean();
        // since 3 it is told there: 9 9 6 3 0
        x.wear(0, 0, 1, 3, 3);
        x.play(t, 0, 0);
        spots("slack 3 since 3", x, 2, 2, 2, 2);
        x.clean();
        LedArms y = painter();
        // slack 2 since 1 of 0 3 6 4 1: 0, 3, 4, 4, 1
        int u = Use.tape(y, 0, 1, 0, 3, 6, 4, 1);
        y.wear(0, 0, 1, 2, 1);
        y.play(u, 0, 0);
        DUE.is("direction 4 twice", y.paint(5, 9), 2);
        DUE.is("direction 1", y.paint(8, 6), 1);
        DUE.is("direction 3", y.paint(6, 8), 1);
        otherJoints();
    }

    private static void otherJoints() {
        LedArms x = new LedArms();
        x.arm(5, 5);
        x.joint(0, 4, 0, 15, 3);
        x.joint(0, 2, 0, 15, 3);
        x.arm(5, 5);
        x.joint(1, 4, 0, 15, 3);
        int t = Use.tape(x, 0, 1, 0, 2 + 16 * 2);
        int other = Use.tape(x, 1, 1, 0, 3);
        x.wear(0, 1, 0, 1, 1);
        x.play(t, 0, 0);
        // joint 0 as told at 2, joint 1 still at 0: 5000 and 6 times 707
        DUE.is("the other joint is as told", x.paint(9, 9), 1);
        x.clean();
        x.play(other, 0, 0);
        DUE.is("the other arm has no wear", x.paint(6, 8), 1);
        x.wear(0, 0, 0, 1, 1);
        x.clean();
        x.play(t, 0, 0);
        // a new wear takes the place of the old: joint 0 at 0, joint 1 at 2: 9000 and 1414, 5000 and 1414
        DUE.is("one wear at a time", x.paint(10, 6), 1);
    }

    private static void noSuchWear() {
        LedArms x = painter();
        x.arm(3, 3);
        int[][] bad = {{1, 0, 0, 1, 0}, {2, 0, 0, 1, 0}, {-1, 0, 0, 1, 0}, {0, 1, 0, 1, 0}, {0, -1, 0, 1, 0},
            {0, 0, -1, 1, 0}, {0, 0, 2, 1, 0}, {0, 0, 0, -1, 0}, {0, 0, 0, 4, 0}, {0, 0, 0, 1, -1}, {0, 0, 0, 1, 40},
            {0, 0, 1, 1, 40}};
        int t = Use.tape(x, 0, 1, 0, 3);
        DUE.is("wear", x.wear(0, 0, 0, 1, 0), true);
        for (int[] b : bad) {
            DUE.is("wear " + java.util.Arrays.toString(b), x.wear(b[0], b[1], b[2], b[3], b[4]), false);
        }
        x.play(t, 0, 0);
        DUE.is("the wear that there was stays", x.paint(9, 5), 2);
        DUE.is("the latest tick", x.wear(0, 0, 1, 3, 39), true);
        DUE.is("none", x.wear(0, 0, 1, 0, 39), true);
    }
}
