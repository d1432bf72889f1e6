/** Promise 26: what is missing is led anew by the least cut. */
public final class AnewTest {
    private static final Due DUE = new Due("AnewTest");

    public static void main(String[] args) {
        shortest();
        whatIsThere();
        belts();
        noSuch();
        DUE.end();
    }

    private static LedArms painter() {
        LedArms x = new LedArms();
        x.arm(5, 5);
        x.joint(0, 4, 0, 15, 3);
        return x;
    }

    private static void cut(String when, LedArms x, int tape, int bar, int from, int to) {
        DUE.is(when + ", from", x.anew(tape, 0, 0, bar, 0), from);
        DUE.is(when + ", to", x.anew(tape, 0, 0, bar, 1), to);
    }

    private static void shortest() {
        LedArms x = painter();
        int t = Use.tape(x, 0, 2, 0, 0, 3, 6, 3, 0, 0, 0);
        // 0: 10, 3: 4, 6: 2
        cut("all of bar 2", x, t, 2, 1, 3);
        cut("bar 3: no 6, but both of 3", x, t, 3, 0, 4);
        cut("bar 5: only 0", x, t, 5, 5, 7);
        cut("bar 6", x, t, 6, 5, 7);
        cut("bar 7", x, t, 7, 0, 6);
        cut("bar 10", x, t, 10, 0, 7);
        cut("bar 11: nothing", x, t, 11, -2, -2);
        int u = Use.tape(x, 0, 5, 0, 3, 0);
        cut("of several the first", x, u, 5, 0, 1);
        DUE.is("it lays nothing", x.count(3), 0);
        x.wear(0, 0, 0, 3, 0);
        cut("wear does not count", x, t, 2, 1, 3);
        x.nozzle(20);
        cut("the nozzle does", x, t, 3, 1, 3);
    }

    private static void whatIsThere() {
        LedArms x = painter();
        int t = Use.tape(x, 0, 2, 0, 0, 3, 6, 3, 0, 0, 0);
        int once = Use.tape(x, 0, 3, 0, 3);
        x.play(once, 0, 0);
        // 3 on 0 and on 3
        cut("bar 2: 6 alone", x, t, 2, 3, 3);
        cut("bar 4: 1 is missing on 0 and on 3", x, t, 4, 1, 2);
        cut("bar 5: 2 on 0, and 3 can't", x, t, 5, 0, 0);
        cut("bar 6: 3 on 0", x, t, 6, 0, 1);
        cut("bar 9: 6 on 0", x, t, 9, 5, 7);
        x.play(t, 0, 0);
        cut("enough of all", x, t, 2, -2, -2);
        int empty = x.tape(0);
        cut("an empty tape", x, empty, 1, -2, -2);
    }

    private static void belts() {
        LedArms x = painter();
        int t = Use.tape(x, 0, 2, 0, 0, 0);
        // 9 8 7: each is missing
        DUE.is("from", x.anew(t, 1000, 0, 2, 0), 0);
        DUE.is("to", x.anew(t, 1000, 0, 2, 1), 2);
        x.play(t, 1000, 0);
        DUE.is("then nothing", x.anew(t, 1000, 0, 2, 0), -2);
        // 10 9 8 by the offset: 10 alone is missing
        DUE.is("its time counts", x.anew(t, 1000, -1000, 2, 1), 0);
        // 7 8 9 and 2 more to the right: 9 10 11
        DUE.is("against it, from", x.anew(t, -1000, 0, 2, 0), 1);
        DUE.is("against it, to", x.anew(t, -1000, 0, 2, 1), 2);
        DUE.is("all is lost", x.anew(t, 0, 20000, 1, 0), -2);
        LedArms y = new LedArms();
        y.arm(1, 0);
        y.joint(0, 1, 0, 15, 3);
        // less 1000: 1 0, and twice 0 0 (707 707)
        int u = Use.tape(y, 0, 1, 0, 2, 2);
        DUE.is("the first spot, from", y.anew(u, 0, 1000, 2, 0), 1);
        DUE.is("the first spot, to", y.anew(u, 0, 1000, 2, 1), 2);
    }

    private static void noSuch() {
        LedArms x = painter();
        int t = Use.tape(x, 0, 9, 0, 0, 0, 0, 0, 0, 0, 0, 0, 0, 0);
        int[][] bad = {{1, 0, 0, 1, 0}, {-1, 0, 0, 1, 0}, {t, 2001, 0, 1, 0}, {t, -2001, 0, 1, 0}, {t, 0, 20001, 1, 0},
            {t, 0, -20001, 1, 0}, {t, 0, 0, 0, 0}, {t, 0, 0, 100, 0}, {t, 0, 0, 1, 2}, {t, 0, 0, 1, -1},
            {t, 0, 0, -5, 0}};
        for (int[] b : bad) {
            DUE.is("anew " + java.util.Arrays.toString(b), x.anew(b[0], b[1], b[2], b[3], b[4]), -1);
        }
        cut("the greatest bar", x, t, 99, 0, 10);
        cut("the least bar", x, t, 1, 0, 0);
    }
}
