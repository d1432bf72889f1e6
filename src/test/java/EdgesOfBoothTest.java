import java.util.Arrays;

/** The edges that the document names for two arms in one booth: meeting (promises 21, 22). */
public final class EdgesOfBoothTest {
    private static final Due DUE = new Due("EdgesOfBoothTest");

    public static void main(String[] args) {
        zeroIfTheyAreAtTheirLastAtFirst();
        neitherAtTheStartNorAtTheEnd();
        oneWaits();
        bothOrOneGoesOn();
        theFewestTimesRatherThanBoth();
        bothRatherThanArm0RatherThanArm1();
        itCantBe();
        theBaseIsInNoBody();
        middlesAreInTheBody();
        allPointsOfThreeJoints();
        cellsBelow0();
        middlesAreCutDownwards();
        noSuchTapesToMeet();
        metAtNoSuchTime();
        theLatestMeetThatToldANumber();
        theLongestMeeting();
        DUE.end();
    }

    /** Arm 0 at 0 0, arm 1 at 6 0, both 3 long: of all poses used here only 0 of arm 0 and 8 of arm 1 have a cell in common. */
    private static LedArms booth() {
        LedArms x = new LedArms();
        Use.arm(x, 0, 0, 3, 0, 15, 3);
        Use.arm(x, 6, 0, 3, 0, 15, 3);
        return x;
    }

    /** A tape of arm 0 that is in the middle (1) or beside it (0). */
    private static int left(LedArms x, String ticks) {
        int t = x.tape(0);
        for (char c : ticks.toCharArray()) {
            x.lead(t, c == '1' ? 0 : 3, 0);
        }
        return t;
    }

    private static int right(LedArms x, String ticks) {
        int t = x.tape(1);
        for (char c : ticks.toCharArray()) {
            x.lead(t, c == '1' ? 8 : 5, 0);
        }
        return t;
    }

    /** Meets two such tapes: due are the times and the ticks, as "0.0 1.1". */
    private static void meets(String a, String b, int due, String way) {
        LedArms x = booth();
        DUE.is(a + " meets " + b, x.meet(left(x, a), right(x, b)), due);
        DUE.same(a + " meets " + b + ", way", way(x), way);
    }

    private static String way(LedArms x) {
        StringBuilder s = new StringBuilder();
        for (int k = 0; x.met(k) >= 0; k++) {
            s.append(k == 0 ? "" : " ").append(x.met(k) % 64).append('.').append(x.met(k) / 64);
        }
        return s.toString();
    }

    /** "(0 if they are at first)" */
    private static void zeroIfTheyAreAtTheirLastAtFirst() {
        meets("0", "0", 0, "0.0");
        meets("1", "0", 0, "0.0");
        meets("0", "1", 0, "0.0");
        meets("0", "00", 1, "0.0 0.1");
        meets("00", "0", 1, "0.0 1.0");
    }

    /** "at no time a CELL is in both BODIES, neither at the end" */
    private static void neitherAtTheStartNorAtTheEnd() {
        meets("1", "1", -2, "");
        meets("10", "10", -2, "");
        meets("01", "01", -2, "");
        meets("100", "1", -2, "");
        meets("001", "1", -2, "");
        meets("1", "001", -2, "");
        meets("10", "01", 1, "0.0 1.1");
        meets("01", "10", 1, "0.0 1.1");
    }

    /** "each of them goes on by one or waits" */
    private static void oneWaits() {
        meets("010", "01", 2, "0.0 1.0 2.1");
        meets("01", "010", 2, "0.0 0.1 1.2");
        meets("0110", "01", 3, "0.0 1.0 2.0 3.1");
        // arm 1 waits at its first tick while arm 0 is in the middle
        meets("0110", "0110", 5, "0.0 1.0 2.0 3.1 3.2 3.3");
    }

    /** "(one of them goes on, as long as there is more)": at each time one or both, till both are at their last. */
    private static void bothOrOneGoesOn() {
        meets("000", "000", 2, "0.0 1.1 2.2");
        meets("000", "0", 2, "0.0 1.0 2.0");
        meets("0", "000", 2, "0.0 0.1 0.2");
        // neither may go on alone, but both may at once
        LedArms x = new LedArms();
        Use.arm(x, 0, 0, 3, 0, 15, 3);
        Use.arm(x, 5, 0, 3, 0, 15, 3);
        // arm 0 at 1: 2 1 and 1 0, at 2: 2 2 and 1 1; arm 1 at 6: 2 2 and 3 1, at 7: 2 1 and 3 0
        int a = Use.tape(x, 0, 0, 1, 2);
        int b = Use.tape(x, 1, 0, 6, 7);
        DUE.is("both at once", x.meet(a, b), 1);
        DUE.same("both at once, way", way(x), "0.0 1.1");
        int waitsA = Use.tape(x, 0, 0, 1, 1, 2);
        DUE.is("arm 0 alone first", x.meet(waitsA, b), 2);
        DUE.same("arm 0 alone first, way", way(x), "0.0 1.0 2.1");
    }

    /** "the fewest times that go by": the way that looks better at first may not get to the end. */
    private static void theFewestTimesRatherThanBoth() {
        meets("001", "0010", 3, "0.0 1.1 1.2 2.3");
        // both at first would leave arm 0 no tick ahead of the middle
        meets("01", "0010", 3, "0.0 0.1 0.2 1.3");
        meets("010", "0001", 3, "0.0 1.1 2.2 2.3");
        meets("0100", "01010", 4, "0.0 0.1 1.2 2.3 3.4");
    }

    /** "both go on rather than ARM 0 alone, and that rather than ARM 1 alone" */
    private static void bothRatherThanArm0RatherThanArm1() {
        meets("00", "000", 2, "0.0 1.1 1.2");
        meets("000", "00", 2, "0.0 1.1 2.1");
        meets("0000", "0", 3, "0.0 1.0 2.0 3.0");
        meets("010", "010", 3, "0.0 1.0 2.1 2.2");
        meets("0010", "0010", 4, "0.0 1.1 2.1 3.2 3.3");
        meets("0100", "0010", 3, "0.0 1.1 2.2 3.3");
    }

    /** "-2: it can't be" */
    private static void itCantBe() {
        // start and end are free, but what lies between them is not
        meets("11", "010", -2, "");
        meets("010", "11", -2, "");
        meets("1", "010", -2, "");
        meets("010", "1", -2, "");
        meets("1111", "00100", -2, "");
        // a gap in the middle is enough
        meets("1101", "00100", 4, "0.0 1.1 2.2 3.3 3.4");
    }

    /** "CELLS of all points but the first one" */
    private static void theBaseIsInNoBody() {
        LedArms x = new LedArms();
        Use.arm(x, 5, 5, 6, 0, 15, 3);
        Use.arm(x, 8, 5, 3, 0, 15, 3);
        // arm 0 at 0: 11 5 and 8 5, which is the base of arm 1; arm 1 at 4: 8 8 and 8 6
        DUE.is("a middle on the other's base", x.meet(Use.tape(x, 0, 0, 0), Use.tape(x, 1, 0, 4)), 0);
        LedArms y = new LedArms();
        Use.arm(y, 5, 5, 3, 0, 15, 3);
        Use.arm(y, 8, 5, 6, 0, 15, 3);
        // arm 0 at 0: 8 5 and 6 5; arm 1 at 4: 8 11 and 8 8
        DUE.is("a tip on the other's base", y.meet(Use.tape(y, 0, 0, 0), Use.tape(y, 1, 0, 4)), 0);
        // arm 1 at 8: 2 5 and 5 5, which is the base of arm 0
        DUE.is("the other way", y.meet(Use.tape(y, 0, 0, 4), Use.tape(y, 1, 0, 8)), 0);
    }

    /** "and of the middles of each two that follow one another" */
    private static void middlesAreInTheBody() {
        LedArms x = new LedArms();
        Use.arm(x, 5, 5, 6, 0, 15, 3);
        Use.arm(x, 8, 8, 3, 0, 15, 3, 3, 0, 15, 3);
        int a = Use.tape(x, 0, 0, 0);
        // arm 0 at 0: 11 5 and 8 5; arm 1 down and back up: its tip is at its base, its middles are 8 6
        DUE.is("a middle on a point", x.meet(a, Use.tape(x, 1, 0, 12 + 16 * 4)), -2);
        LedArms y = new LedArms();
        Use.arm(y, 5, 5, 6, 0, 15, 3);
        Use.arm(y, 8, 7, 4, 0, 15, 3);
        // arm 1 down: 8 3 and 8 5
        DUE.is("a middle on a middle", y.meet(Use.tape(y, 0, 0, 0), Use.tape(y, 1, 0, 12)), -2);
        LedArms z = new LedArms();
        Use.arm(z, 8, 9, 4, 0, 15, 3);
        Use.arm(z, 5, 5, 6, 0, 15, 3);
        // arm 0 down: 8 5 and 8 7
        DUE.is("a point on a middle", z.meet(Use.tape(z, 0, 0, 12), Use.tape(z, 1, 0, 0)), -2);
        DUE.is("beside it", z.meet(Use.tape(z, 0, 0, 11), 1), 0);
    }

    /** Each of three points and three middles of an ARM counts. */
    private static void allPointsOfThreeJoints() {
        // arm 0 to the right: 2 0, 4 0, 6 0 and middles 1 0, 3 0, 5 0; arm 1 stands above and looks down with its tip
        for (int column = 0; column <= 8; column++) {
            LedArms x = new LedArms();
            Use.arm(x, 0, 0, 2, 0, 15, 3, 2, 0, 15, 3, 2, 0, 15, 3);
            Use.arm(x, column, 6, 6, 0, 15, 3);
            int due = column >= 1 && column <= 6 ? -2 : 0;
            DUE.is("arm 0 at " + column, x.meet(Use.tape(x, 0, 0, 0), Use.tape(x, 1, 0, 12)), due);
            LedArms y = new LedArms();
            Use.arm(y, column, 6, 6, 0, 15, 3);
            Use.arm(y, 0, 0, 2, 0, 15, 3, 2, 0, 15, 3, 2, 0, 15, 3);
            DUE.is("arm 1 at " + column, y.meet(Use.tape(y, 0, 0, 12), Use.tape(y, 1, 0, 0)), due);
        }
    }

    /** "CELL of a point: x and y by 1000, cut downwards": below 0 too. */
    private static void cellsBelow0() {
        LedArms x = new LedArms();
        Use.arm(x, 0, 0, 1, 0, 15, 3);
        Use.arm(x, 0, 0, 1, 0, 15, 3);
        // 1: 0 0; 7: -1 0; 9: -1 -1; 15: 0 -1, middles too
        int[] poses = {1, 7, 9, 15};
        for (int p : poses) {
            for (int q : poses) {
                LedArms y = new LedArms();
                Use.arm(y, 0, 0, 1, 0, 15, 3);
                Use.arm(y, 0, 0, 1, 0, 15, 3);
                DUE.is(p + " and " + q, y.meet(Use.tape(y, 0, 0, p), Use.tape(y, 1, 0, q)), p == q ? -2 : 0);
            }
        }
        DUE.is("in one cell", x.meet(Use.tape(x, 0, 0, 9), Use.tape(x, 1, 0, 10)), -2);
    }

    /** "(their sums by 2, cut downwards)" */
    private static void middlesAreCutDownwards() {
        // arm 0: -1414 1414, -6958 3712, -5043 8332; the last middle is -12001 and 12044 by 2: -6001 6022, cell -7 6
        int pose = 6 + 16 + 256 * 12;
        LedArms x = new LedArms();
        Use.arm(x, 0, 0, 2, 0, 15, 3, 6, 0, 15, 3, 5, 0, 15, 3);
        Use.arm(x, 0, 6, 6, 0, 15, 3);
        // arm 1 at 8: -6 6 and -3 6
        DUE.is("not -6 6", x.meet(Use.tape(x, 0, 0, pose), Use.tape(x, 1, 0, 8)), 0);
        LedArms y = new LedArms();
        Use.arm(y, 0, 0, 2, 0, 15, 3, 6, 0, 15, 3, 5, 0, 15, 3);
        Use.arm(y, 0, 5, 6, 0, 15, 3, 2, 0, 15, 3);
        // arm 1 at 8, then 5: -6 5 and -3 5, -6766 6848 and -6383 5924
        DUE.is("but -7 6", y.meet(Use.tape(y, 0, 0, pose), Use.tape(y, 1, 0, 8 + 16 * 13)), -2);
    }

    /** "NONE: no such TAPES (of ARM 0, of ARM 1), an empty one." */
    private static void noSuchTapesToMeet() {
        LedArms x = booth();
        int a = left(x, "00");
        int b = right(x, "00");
        int emptyA = x.tape(0);
        int emptyB = x.tape(1);
        int[][] bad = {{b, a}, {a, a}, {b, b}, {emptyA, b}, {a, emptyB}, {emptyA, emptyB}, {-1, b}, {a, -1}, {4, b}, {a, 4},
            {10, b}, {a, Integer.MAX_VALUE}, {Integer.MIN_VALUE, b}};
        for (int[] n : bad) {
            DUE.is("meet " + Arrays.toString(n), x.meet(n[0], n[1]), -1);
        }
        DUE.is("meet", x.meet(a, b), 1);
    }

    /** "NONE: there is none such." */
    private static void metAtNoSuchTime() {
        LedArms x = booth();
        int[] far = {-1, 3, 79, 80, 81, Integer.MIN_VALUE, Integer.MAX_VALUE};
        DUE.is("no meet yet", x.met(0), -1);
        x.meet(left(x, "000"), right(x, "00"));
        int[] due = {0, 1 + 64, 2 + 64};
        for (int k = 0; k < 3; k++) {
            DUE.is("met " + k, x.met(k), due[k]);
        }
        for (int k : far) {
            DUE.is("met " + k, x.met(k), -1);
        }
    }

    /** "Of the latest meet() that told a number" */
    private static void theLatestMeetThatToldANumber() {
        LedArms x = booth();
        int a = left(x, "0000");
        int b = right(x, "00");
        int c = left(x, "1");
        int d = right(x, "1");
        DUE.is("a number", x.meet(a, b), 3);
        DUE.is("it can't be", x.meet(c, d), -2);
        DUE.same("the way stays", way(x), "0.0 1.1 2.1 3.1");
        DUE.is("no such tape", x.meet(a, a), -1);
        DUE.same("the way stays", way(x), "0.0 1.1 2.1 3.1");
        x.lead(a, 3, 0);
        DUE.same("it is of the tape as it was", way(x), "0.0 1.1 2.1 3.1");
        DUE.is("a lesser number", x.meet(c, b), 1);
        DUE.same("a shorter way", way(x), "0.0 0.1");
        DUE.is("the least number", x.meet(c, right(x, "0")), 0);
        DUE.same("the shortest way", way(x), "0.0");
    }

    /** TAPES of 40 TICKS: one must wait for the whole of the other. */
    private static void theLongestMeeting() {
        LedArms x = booth();
        int a = left(x, "1".repeat(39) + "0");
        int b = right(x, "0" + "1".repeat(39));
        DUE.is("77 times", x.meet(a, b), 77);
        DUE.is("at 38", x.met(38), 38);
        DUE.is("at 39", x.met(39), 39 + 64);
        DUE.is("at 77", x.met(77), 39 + 64 * 39);
        DUE.is("at 78", x.met(78), -1);
        LedArms y = booth();
        int c = left(y, "0".repeat(40));
        int d = right(y, "0".repeat(40));
        DUE.is("39 times", y.meet(c, d), 39);
        DUE.is("at 39", y.met(39), 39 + 64 * 39);
        DUE.is("at 40", y.met(40), -1);
    }
}
