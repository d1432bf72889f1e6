/** Promises 21, 22: two tapes in one booth. */
public final class MeetTest {
    private static final Due DUE = new Due("MeetTest");

    public static void main(String[] args) {
        waiting();
        whoGoesFirst();
        cannot();
        middles();
        noSuch();
        longOnes();
        DUE.end();
    }

    /** Arm 0 at 0 0, arm 1 at 6 0, both 3 long: the tip of 0 of the one is the tip of 8 of the other. */
    private static LedArms booth() {
        LedArms x = new LedArms();
        x.arm(0, 0);
        x.joint(0, 3, 0, 15, 3);
        x.arm(6, 0);
        x.joint(1, 3, 0, 15, 3);
        return x;
    }

    private static void way(LedArms x, int... due) {
        for (int k = 0; k < due.length; k++) {
            DUE.is("met " + k, x.met(k), due[k]);
        }
        DUE.is("met behind the end", x.met(due.length), -1);
        DUE.is("met ahead of the start", x.met(-1), -1);
    }

    private static void waiting() {
        LedArms x = booth();
        int a = Use.tape(x, 0, 0, 0, 0, 3);
        int b = Use.tape(x, 1, 0, 5, 8, 8);
        // both at once would meet at 0 and 8; arm 0 goes first
        DUE.is("meet", x.meet(a, b), 3);
        way(x, 0, 1, 2 + 64, 2 + 128);
        int free = Use.tape(x, 1, 0, 4, 4, 4);
        DUE.is("nothing in the way", x.meet(a, free), 2);
        way(x, 0, 65, 130);
        int one = Use.tape(x, 0, 0, 4);
        int two = Use.tape(x, 1, 0, 4);
        DUE.is("at their last ones at first", x.meet(one, two), 0);
        way(x, 0);
        DUE.is("one is long", x.meet(one, b), 2);
        way(x, 0, 64, 128);
        DUE.is("the other is long", x.meet(a, two), 2);
        way(x, 0, 1, 2);
    }

    private static void whoGoesFirst() {
        LedArms x = booth();
        int a = Use.tape(x, 0, 0, 4, 4);
        int b = Use.tape(x, 1, 0, 4, 4, 4, 4);
        DUE.is("both first, then arm 1 alone", x.meet(a, b), 3);
        way(x, 0, 65, 129, 193);
        int c = Use.tape(x, 0, 0, 4, 4, 4, 4);
        int d = Use.tape(x, 1, 0, 4, 4);
        DUE.is("both first, then arm 0 alone", x.meet(c, d), 3);
        way(x, 0, 65, 66, 67);
        // 3 0 3 and 6 8 6: not both in the middle at once: one passes first, and arm 0 is rather that one
        int e = Use.tape(x, 0, 0, 3, 0, 3);
        int f = Use.tape(x, 1, 0, 6, 8, 6);
        DUE.is("arm 0 alone rather than arm 1 alone", x.meet(e, f), 3);
        way(x, 0, 1, 2 + 64, 2 + 128);
    }

    private static void cannot() {
        LedArms x = booth();
        int a = Use.tape(x, 0, 0, 3, 0);
        int b = Use.tape(x, 1, 0, 6, 8);
        int c = Use.tape(x, 0, 0, 0, 3);
        int d = Use.tape(x, 1, 0, 8, 6);
        DUE.is("nothing told yet", x.met(0), -1);
        DUE.is("they meet at the end", x.meet(a, b), -2);
        DUE.is("they meet at the start", x.meet(c, d), -2);
        DUE.is("still nothing told", x.met(0), -1);
        DUE.is("a number", x.meet(c, b), 1);
        way(x, 0, 65);
        DUE.is("they meet at the end", x.meet(a, b), -2);
        way(x, 0, 65);
        DUE.is("no such tape", x.meet(a, 9), -1);
        way(x, 0, 65);
    }

    private static void middles() {
        LedArms x = new LedArms();
        x.arm(0, 0);
        x.joint(0, 6, 0, 15, 3);
        x.arm(3, 3);
        x.joint(1, 3, 0, 15, 3);
        // middle of arm 0 at 0: 3 0; tip of arm 1 at 12: 3 0
        int a = Use.tape(x, 0, 0, 0);
        int b = Use.tape(x, 1, 0, 12);
        DUE.is("a tip on a middle", x.meet(a, b), -2);
        // tip of arm 0 at 2: 4242 4242; arm 1's middle at 2: 4060 4060
        int c = Use.tape(x, 0, 0, 2);
        int d = Use.tape(x, 1, 0, 2);
        DUE.is("a middle on a tip", x.meet(c, d), -2);
        // bases are in no body: arm 0's middle at 2 is 2121 2121, its tip 4 4; arm 1 at 8: 0 3 and 1 3
        int e = Use.tape(x, 1, 0, 8);
        DUE.is("free", x.meet(c, e), 0);
        LedArms w = new LedArms();
        w.arm(0, 0);
        w.joint(0, 4, 0, 15, 3);
        w.arm(1, 9);
        for (int j = 0; j < 3; j++) {
            w.joint(1, 3, 0, 15, 3);
        }
        // arm 1 all down: 1 6, 1 3, 1 0 and middles 1 7, 1 4, 1 1; arm 0 at 0: 4 0 and 2 0, at 4: 0 4 and 0 2
        DUE.is("not yet", w.meet(Use.tape(w, 0, 0, 0), Use.tape(w, 1, 0, 12)), 0);
        // arm 1: to the right, then down: 4 9, 4 6, 4 3 and middles 2 9, 4 7, 4 4
        DUE.is("free", w.meet(0, Use.tape(w, 1, 0, 16 * 12)), 0);
        // arm 0's middle at 1 is 1848 766: the cell of arm 1's last tip, 1 0
        DUE.is("the last tip", w.meet(Use.tape(w, 0, 0, 1), 1), -2);
        LedArms y = new LedArms();
        y.arm(5, 5);
        y.joint(0, 1, 0, 15, 3);
        y.arm(5, 5);
        y.joint(1, 1, 0, 15, 3);
        // one base: bodies at 0: 6 5 and 5 5; at 8: 4 5 and 4 5 (4500)
        DUE.is("one base", y.meet(Use.tape(y, 0, 0, 0), Use.tape(y, 1, 0, 8)), 0);
        LedArms z = new LedArms();
        z.arm(0, 0);
        z.joint(0, 1, 0, 15, 3);
        z.arm(0, 0);
        z.joint(1, 1, 0, 15, 3);
        // below 0, cut downwards: 9 is at -1 -1 (-924 -383), 15 at 0 -1 (924 -383): no cell in both
        DUE.is("below 0", z.meet(Use.tape(z, 0, 0, 9), Use.tape(z, 1, 0, 15)), 0);
        DUE.is("the same", z.meet(Use.tape(z, 0, 0, 9), Use.tape(z, 1, 0, 10)), -2);
    }

    private static void noSuch() {
        LedArms x = booth();
        int a = Use.tape(x, 0, 0, 4, 4);
        int b = Use.tape(x, 1, 0, 4, 4);
        int emptyA = x.tape(0);
        int emptyB = x.tape(1);
        int[][] bad = {{b, a}, {a, a}, {b, b}, {a, 4}, {4, b}, {-1, b}, {a, -1}, {emptyA, b}, {a, emptyB},
            {Integer.MIN_VALUE, Integer.MAX_VALUE}};
        for (int[] n : bad) {
            DUE.is("meet " + n[0] + " " + n[1], x.meet(n[0], n[1]), -1);
        }
        DUE.is("nothing told", x.met(0), -1);
    }

    private static void longOnes() {
        LedArms x = booth();
        int a = x.tape(0);
        int b = x.tape(1);
        for (int i = 0; i < 40; i++) {
            x.lead(a, i < 39 ? 0 : 3, 0);
            x.lead(b, i < 1 ? 6 : 8, 0);
        }
        // arm 1 can't leave its first tick before arm 0 is at its last one, but with that step
        DUE.is("the longest", x.meet(a, b), 38 + 39);
        DUE.is("arm 0 alone", x.met(38), 38);
        DUE.is("both", x.met(39), 39 + 64);
        DUE.is("arm 1 alone", x.met(77), 39 + 64 * 39);
        DUE.is("no more", x.met(78), -1);
    }
}
