/** The edges that the document names for tapes led by the hand (promises 9 to 12, 27, 28). */
public final class EdgesOfTapesTest {
    private static final Due DUE = new Due("EdgesOfTapesTest");
    private static final String NO_INDEX = "IndexOutOfBoundsException";
    private static final String NO_WHAT = "NoSuchElementException";

    public static void main(String[] args) {
        tapesAreAtMostTen();
        noTapeForAnArmWithoutJoints();
        ticksAreAtMostForty();
        spraysAreFrom0To9();
        noSuchPose();
        fromTickToTickHopIs1AtMost();
        theFirstTickIsAnywhere();
        anEmptyTape();
        lookingAtTicks();
        lookingAtWhat();
        lookThrowsForTheTapeOrTickFirst();
        aboutTapes();
        apartOverTicksThatBothHave();
        apartIsTheGreatestOfXOrY();
        apartTellsTheFirstOfSeveral();
        apartOfNoSuchOnes();
        countsOfAll();
        theTenthTapeAndTheOneBeyond();
        tapesOf40Ticks();
        DUE.end();
    }

    private static LedArms painter() {
        return Use.painter();
    }

    /** "TAPES, at most 10, numbered from 0 on"; "NONE: .. or there are 10." */
    private static void tapesAreAtMostTen() {
        LedArms x = painter();
        Use.arm(x, 6, 6, 1, 0, 15, 1);
        for (int i = 0; i < 12; i++) {
            DUE.is("tape " + i, x.tape(i % 2), i < 10 ? i : -1);
        }
        DUE.is("tapes", x.count(1), 10);
        DUE.is("the tenth can be led", x.lead(9, 0, 0), 1);
        DUE.is("there is no eleventh", x.lead(10, 0, 0), -1);
        DUE.is("the tenth's arm", x.about(9, 0), 1);
    }

    /** "NONE: no such ARM, it has no JOINTS" */
    private static void noTapeForAnArmWithoutJoints() {
        LedArms x = new LedArms();
        x.arm(5, 5);
        DUE.is("no joints yet", x.tape(0), -1);
        DUE.is("no tape", x.count(1), 0);
        x.joint(0, 1, 0, 0, 1);
        DUE.is("one joint is enough", x.tape(0), 0);
    }

    /** "at most 40 TICKS"; "NONE: .. or there are 40." */
    private static void ticksAreAtMostForty() {
        LedArms x = painter();
        x.tape(0);
        x.tape(0);
        for (int i = 1; i <= 42; i++) {
            DUE.is("tick " + i, x.lead(0, i % 2, i % 10), i <= 40 ? i : -1);
        }
        DUE.is("ticks", x.about(0, 1), 40);
        DUE.same("the last one's pose", Use.look(x, 0, 39, 0), "0");
        DUE.same("there is no more", Use.look(x, 0, 40, 0), NO_INDEX);
        DUE.is("the other tape has none", x.about(1, 1), 0);
    }

    /** "SPRAY 0 .. 9" */
    private static void spraysAreFrom0To9() {
        for (int spray = -2; spray <= 12; spray++) {
            LedArms x = painter();
            x.tape(0);
            boolean fine = spray >= 0 && spray <= 9;
            DUE.is("spray " + spray, x.lead(0, 3, spray), fine ? 1 : -1);
            DUE.same("it is kept", Use.look(x, 0, 0, 1), fine ? Integer.toString(spray) : NO_INDEX);
        }
    }

    /** "NONE: no such TAPE, POSE" */
    private static void noSuchPose() {
        LedArms x = new LedArms();
        Use.arm(x, 5, 5, 1, 2, 5, 3);
        x.tape(0);
        int[] bad = {1, 6, 0, -1, 2 + 16, 2 + 256, 2 + 4096, 2 - 4096, Integer.MIN_VALUE, Integer.MAX_VALUE};
        for (int pose : bad) {
            DUE.is("lead to " + pose, x.lead(0, pose, 0), -1);
        }
        DUE.is("the low end", x.lead(0, 2, 0), 1);
        DUE.is("the high end", x.lead(0, 5, 0), 2);
        int[] noTape = {-1, 1, 10, Integer.MIN_VALUE, Integer.MAX_VALUE};
        for (int tape : noTape) {
            DUE.is("lead on tape " + tape, x.lead(tape, 5, 0), -1);
        }
    }

    /** "from TICK to TICK HOP is 1 at most" */
    private static void fromTickToTickHopIs1AtMost() {
        for (int speed = 1; speed <= 3; speed++) {
            for (int far = -5; far <= 5; far++) {
                LedArms x = new LedArms();
                Use.arm(x, 5, 5, 1, 0, 15, 3, 1, 0, 15, speed);
                x.tape(0);
                x.lead(0, 16 * 8, 0);
                boolean fine = far >= -speed && far <= speed;
                DUE.is("by " + far + " at speed " + speed, x.lead(0, 16 * (8 + far), 0), fine ? 2 : -1);
            }
        }
        LedArms y = painter();
        y.tape(0);
        y.lead(0, 15, 0);
        DUE.is("not round from 15 to 0", y.lead(0, 0, 0), -1);
        DUE.is("from the pose before the refused one", y.lead(0, 12, 0), 2);
        DUE.is("now nearer", y.lead(0, 9, 0), 3);
    }

    /** No TICK is ahead of the first one. */
    private static void theFirstTickIsAnywhere() {
        for (int pose = 0; pose < 16; pose++) {
            LedArms x = painter();
            x.tape(0);
            DUE.is("first tick at " + pose, x.lead(0, pose, 0), 1);
        }
    }

    /** "A new TAPE for an ARM, without TICKS" */
    private static void anEmptyTape() {
        LedArms x = painter();
        x.tape(0);
        DUE.is("ticks", x.about(0, 1), 0);
        DUE.is("ticks of all", x.count(2), 0);
        for (int what = -1; what <= 4; what++) {
            DUE.same("look at what " + what, Use.look(x, 0, 0, what), NO_INDEX);
        }
        DUE.is("played", x.play(0, 0, 0), 0);
        DUE.is("followed", x.follow(0, 0, 0, 0), -1);
        DUE.is("suspects", x.suspects(0, 0, 0, 0), 1);
        DUE.is("anew", x.anew(0, 0, 0, 1, 0), -2);
        DUE.is("apart", x.apart(0, 0, 0), -1);
        Use.arm(x, 9, 9, 1, 0, 15, 1);
        int other = Use.tape(x, 1, 0, 0);
        DUE.is("met", x.meet(0, other), -1);
        DUE.is("shared", x.share(1, 0, 0), -1);
        DUE.is("made into one", Use.make(x, "make 0;"), 1);
        DUE.is("which is empty", x.about(2, 1), 0);
    }

    /** "IndexOutOfBoundsException: no such TAPE, TICK." */
    private static void lookingAtTicks() {
        LedArms x = painter();
        Use.tape(x, 0, 7, 4, 5, 6);
        String[] due = {NO_INDEX, "4", "5", "6", NO_INDEX};
        for (int tick = -1; tick <= 3; tick++) {
            DUE.same("tick " + tick, Use.look(x, 0, tick, 0), due[tick + 1]);
        }
        int[] far = {40, Integer.MIN_VALUE, Integer.MAX_VALUE};
        for (int tick : far) {
            DUE.same("tick " + tick, Use.look(x, 0, tick, 0), NO_INDEX);
        }
        int[] none = {-1, 1, 10, Integer.MIN_VALUE, Integer.MAX_VALUE};
        for (int tape : none) {
            DUE.same("tape " + tape, Use.look(x, tape, 0, 0), NO_INDEX);
        }
    }

    /** "what 0: POSE, 1: SPRAY, 2, 3: TIP"; "NoSuchElementException: no such what." */
    private static void lookingAtWhat() {
        LedArms x = painter();
        Use.tape(x, 0, 7, 3);
        String[] due = {NO_WHAT, "3", "7", Integer.toString(5000 + 4 * 383), Integer.toString(5000 + 4 * 924), NO_WHAT};
        for (int what = -1; what <= 4; what++) {
            DUE.same("what " + what, Use.look(x, 0, 0, what), due[what + 1]);
        }
        DUE.same("what far beyond", Use.look(x, 0, 0, Integer.MAX_VALUE), NO_WHAT);
        DUE.same("what far below", Use.look(x, 0, 0, Integer.MIN_VALUE), NO_WHAT);
    }

    /** Of both exceptions the document names this one first. */
    private static void lookThrowsForTheTapeOrTickFirst() {
        LedArms x = painter();
        Use.tape(x, 0, 7, 3);
        DUE.same("neither tape nor what", Use.look(x, 1, 0, 4), NO_INDEX);
        DUE.same("neither tick nor what", Use.look(x, 0, 1, -1), NO_INDEX);
    }

    /** "Of a TAPE, what 0: its ARM, 1: TICKS. NONE: no such ones." */
    private static void aboutTapes() {
        LedArms x = painter();
        Use.arm(x, 6, 6, 1, 0, 15, 1);
        Use.tape(x, 1, 7, 3, 3);
        int[] due = {-1, 1, 2, -1};
        for (int what = -1; what <= 2; what++) {
            DUE.is("about what " + what, x.about(0, what), due[what + 1]);
        }
        int[] none = {-1, 1, 10, Integer.MIN_VALUE, Integer.MAX_VALUE};
        for (int tape : none) {
            DUE.is("about tape " + tape, x.about(tape, 0), -1);
        }
    }

    /** "over TICKS that both have" */
    private static void apartOverTicksThatBothHave() {
        LedArms x = painter();
        int a = Use.tape(x, 0, 0, 0, 1, 4, 7, 8);
        int b = Use.tape(x, 0, 0, 0, 0);
        // at tick 1 4 times 76 and 4 times 383; what comes behind is of one alone
        DUE.is("the longer ahead", x.apart(a, b, 0), 1532);
        DUE.is("the longer behind", x.apart(b, a, 0), 1532);
        DUE.is("its tick", x.apart(a, b, 1), 1);
        DUE.is("its tick", x.apart(b, a, 1), 1);
        x.lead(b, 0, 0);
        // at tick 2 4000 in x and in y
        DUE.is("the last that both have", x.apart(a, b, 0), 4000);
        DUE.is("its tick", x.apart(a, b, 1), 2);
    }

    /** "the greatest (of x or y ..)" */
    private static void apartIsTheGreatestOfXOrY() {
        int[][] poses = {{0, 8, 8000}, {8, 0, 8000}, {4, 12, 8000}, {12, 4, 8000}, {0, 1, 1532}, {4, 3, 1532}, {5, 5, 0}};
        for (int[] p : poses) {
            LedArms x = painter();
            Use.tape(x, 0, 0, p[0]);
            Use.tape(x, 0, 0, p[1]);
            DUE.is("poses " + p[0] + " and " + p[1], x.apart(0, 1, 0), p[2]);
        }
    }

    /** "1: its first TICK" */
    private static void apartTellsTheFirstOfSeveral() {
        LedArms x = painter();
        int a = Use.tape(x, 0, 0, 4, 4, 4, 4);
        int b = Use.tape(x, 0, 0, 4, 3, 3, 4);
        DUE.is("ticks 1 and 2 are alike", x.apart(a, b, 1), 1);
        DUE.is("all are alike", x.apart(a, a, 1), 0);
        DUE.is("and not apart", x.apart(a, a, 0), 0);
    }

    /** "NONE: no such ones, an empty one." */
    private static void apartOfNoSuchOnes() {
        LedArms x = painter();
        int a = Use.tape(x, 0, 0, 4);
        int empty = x.tape(0);
        int[][] bad = {{a, empty, 0}, {a, empty, 1}, {empty, a, 0}, {empty, a, 1}, {empty, empty, 0}, {a, 2, 0}, {2, a, 0},
            {a, -1, 0}, {-1, a, 0}, {a, a, -1}, {a, a, 2}, {a, a, Integer.MAX_VALUE}, {Integer.MIN_VALUE, a, 0}};
        for (int[] b : bad) {
            DUE.is("apart " + java.util.Arrays.toString(b), x.apart(b[0], b[1], b[2]), -1);
        }
    }

    /** "0 ARMS, 1 TAPES, 2 TICKS of all TAPES, .. NONE for another what." */
    private static void countsOfAll() {
        LedArms x = painter();
        int[] other = {-1, 6, Integer.MIN_VALUE, Integer.MAX_VALUE};
        for (int what : other) {
            DUE.is("count " + what, x.count(what), -1);
        }
        x.tape(0);
        for (int i = 0; i < 40; i++) {
            x.lead(0, 0, 9);
        }
        Use.make(x, "make 0;".repeat(9));
        DUE.is("ten tapes", x.count(1), 10);
        DUE.is("of forty ticks", x.count(2), 400);
        x.nozzle(30);
        for (int i = 0; i < 10; i++) {
            DUE.is("all of 40 times 27", x.play(i, 0, 0), 1080);
        }
        DUE.is("paint has no end", x.count(3), 10800);
        DUE.is("on one spot", x.count(4), 1);
        DUE.is("nozzle", x.count(5), 30);
    }

    /** "TAPES, at most 10, numbered from 0 on": each call knows 9 and none knows 10. */
    private static void theTenthTapeAndTheOneBeyond() {
        LedArms x = painter();
        Use.arm(x, 15, 5, 4, 0, 15, 3);
        for (int i = 0; i < 8; i++) {
            Use.tape(x, 0, 1, 4);
        }
        Use.tape(x, 1, 1, 4);
        DUE.is("the tenth", Use.tape(x, 0, 2, 0, 3), 9);
        DUE.is("lead 9", x.lead(9, 6, 2), 3);
        DUE.is("lead 10", x.lead(10, 6, 2), -1);
        DUE.same("look 9", Use.look(x, 9, 2, 0), "6");
        DUE.same("look 10", Use.look(x, 10, 0, 0), NO_INDEX);
        DUE.is("about 9", x.about(9, 1), 3);
        DUE.is("about 10", x.about(10, 1), -1);
        DUE.is("suspects 9", x.suspects(9, 0, 0, 2), 1);
        DUE.is("suspects 10", x.suspects(10, 0, 0, 2), -2);
        DUE.is("anew 9", x.anew(9, 0, 0, 2, 1), 2);
        DUE.is("anew 10", x.anew(10, 0, 0, 2, 1), -1);
        DUE.is("play 9", x.play(9, 0, 0), 6);
        DUE.is("play 10", x.play(10, 0, 0), -1);
        DUE.is("meet 9", x.meet(9, 8), 2);
        DUE.is("meet 10", x.meet(10, 8), -1);
        DUE.is("meet with 10", x.meet(9, 10), -1);
        DUE.is("apart 9", x.apart(0, 9, 0), 4000);
        DUE.is("apart 10", x.apart(0, 10, 0), -1);
        DUE.is("share 9", x.share(512, 0, 0), 3);
        DUE.is("share 10", x.share(1024, 0, 0), -1);
        DUE.is("make 9, the eleventh", Use.make(x, "make 9;"), -1);
        DUE.is("its fault", x.fault(0), 5);
        DUE.is("make 10", Use.make(x, "make 10;"), -1);
        DUE.is("its fault", x.fault(0), 3);
    }

    /** "at most 40 TICKS": the last of them counts in each call as the others do. */
    private static void tapesOf40Ticks() {
        LedArms x = painter();
        Use.arm(x, 20, 20, 1, 0, 15, 3);
        x.tape(0);
        x.tape(0);
        x.tape(1);
        for (int i = 0; i < 40; i++) {
            x.lead(0, 4, i == 39 ? 9 : 0);
            x.lead(1, i == 39 ? 5 : 4, i == 39 ? 9 : 0);
            x.lead(2, 0, 0);
        }
        DUE.same("look at 39", Use.look(x, 1, 39, 0), "5");
        DUE.is("apart", x.apart(0, 1, 0), 1532);
        DUE.is("at tick 39", x.apart(0, 1, 1), 39);
        DUE.is("play", x.play(0, 0, 0), 9);
        DUE.is("anew, from", x.anew(1, 0, 0, 9, 0), 39);
        DUE.is("anew, to", x.anew(1, 0, 0, 9, 1), 39);
        DUE.is("meet", x.meet(0, 2), 39);
        DUE.is("shared", x.share(3, 0, 0), 80);
        DUE.is("shared by both", x.share(7, 0, 1), 4);
        DUE.is("followed", x.follow(1, 0, 0, 0), 3);
        DUE.is("its way", x.way(), 1);
        DUE.is("made", Use.make(x, "make 1;make 1 back;"), 2);
        DUE.same("the first of those turned round", Use.look(x, 5, 0, 0), "5");
        DUE.is("all ticks", x.count(2), 240);
        x.wear(0, 0, 1, 1, 38);
        // at tick 39 it stays at 4; so do all lags, and all slacks since 38 or earlier
        DUE.is("suspects", x.suspects(1, 0, 0, 0), 3 * 40 + 3 * 39);
        DUE.is("the greatest T", x.suspects(1, 0, 0, 5), 39);
    }
}
