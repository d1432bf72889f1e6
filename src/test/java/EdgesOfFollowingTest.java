import java.util.Arrays;

/** The edges that the document names for following, where it stops, and its way (promises 18, 19, 20). */
public final class EdgesOfFollowingTest {
    private static final Due DUE = new Due("EdgesOfFollowingTest");

    public static void main(String[] args) {
        errorsAreFrom0To2000();
        atMostErrorAwayOnEachSide();
        driftsAreFromMinus2000To2000();
        driftTimesTIsAddedToX();
        eachHopIs1AtMost();
        eachJointMovesAlone();
        posesAreWithinTheEnds();
        posesOfThatArmAlone();
        theLeastWay();
        wayIsOverAllJoints();
        theFirstByNumbersOfPoses();
        theFirstTickByTick();
        stopsAtTheFirstTick();
        stopsAtTheLastTick();
        stopsWhereNoRowReaches();
        noSuchOnes();
        anEmptyTapeOrAnArmWithoutJoints();
        thereAreTen();
        theLatestFollowThatMadeOrStopped();
        theWayOfTheLatestTape();
        sprayAsItIs();
        oneTickAndForty();
        wearIsNotFollowed();
        allRowsOfSmallArms();
        DUE.end();
    }

    /** Arm 0 and arm 1 with one pose each: tips at 5, 5 and at 5 and dx, 5 and dy. */
    private static LedArms fixed(int dx, int dy) {
        LedArms x = new LedArms();
        Use.arm(x, 4, 5, 1, 0, 0, 1);
        Use.arm(x, 4 + dx, 5 + dy, 1, 0, 0, 1);
        return x;
    }

    /** "an ERROR (0 .. 2000)" */
    private static void errorsAreFrom0To2000() {
        LedArms x = fixed(0, 0);
        int t = Use.tape(x, 0, 0, 0);
        int[] bad = {-1, 2001, Integer.MIN_VALUE, Integer.MAX_VALUE};
        for (int error : bad) {
            DUE.is("error " + error, x.follow(t, 1, 0, error), -1);
            DUE.is("error " + error + ", shared", x.share(1, error, 0), -1);
        }
        DUE.is("error 0", x.follow(t, 1, 0, 0), 1);
        DUE.is("error 2000", x.follow(t, 1, 0, 2000), 2);
        DUE.is("error 0, shared", x.share(1, 0, 0), 1);
        DUE.is("error 2000, shared", x.share(1, 2000, 0), 1);
    }

    /** "each TIP is at most ERROR away in x and in y" */
    private static void atMostErrorAwayOnEachSide() {
        int[][] sides = {{1, 0}, {-1, 0}, {0, 1}, {0, -1}, {2, 0}, {-2, 0}, {0, 2}, {0, -2}, {1, 1}, {-2, 2}, {1, -2}};
        for (int[] s : sides) {
            int far = 1000 * Math.max(Math.abs(s[0]), Math.abs(s[1]));
            LedArms x = fixed(s[0], s[1]);
            int t = Use.tape(x, 0, 0, 0);
            DUE.is("by " + Arrays.toString(s) + ", a thousandth less", x.follow(t, 1, 0, far - 1), -2);
            DUE.is("by " + Arrays.toString(s) + ", just so far", x.follow(t, 1, 0, far), 1);
        }
        int[][] beyond = {{3, 0}, {0, 3}, {-3, 0}, {0, -3}};
        for (int[] s : beyond) {
            LedArms x = fixed(s[0], s[1]);
            DUE.is("by " + Arrays.toString(s), x.follow(Use.tape(x, 0, 0, 0), 1, 0, 2000), -2);
        }
    }

    /** "a DRIFT (-2000 .. 2000 thousandths a TICK)" */
    private static void driftsAreFromMinus2000To2000() {
        LedArms x = fixed(0, 0);
        int t = Use.tape(x, 0, 0, 0);
        int[] bad = {-2001, 2001, Integer.MIN_VALUE, Integer.MAX_VALUE};
        for (int drift : bad) {
            DUE.is("drift " + drift, x.follow(t, 1, drift, 0), -1);
        }
        DUE.is("drift 2000", x.follow(t, 1, 2000, 0), 1);
        DUE.is("drift -2000", x.follow(t, 1, -2000, 0), 2);
    }

    /** "DRIFT times t added to x" */
    private static void driftTimesTIsAddedToX() {
        LedArms x = new LedArms();
        Use.arm(x, 5, 5, 1, 0, 0, 1);
        Use.arm(x, 6, 6, 1, 0, 15, 3);
        int t = Use.tape(x, 0, 0, 0, 0, 0);
        // tips of arm 1: 6 5 at 12, 7 6 at 0, 5 6 at 8; the tape is at 6 5: tick 0 without a drift
        DUE.is("drift 0", x.follow(t, 1, 0, 0), 1);
        DUE.same("it stays", Use.ticks(x, 1), "12:0 12:0 12:0");
        // at tick 1 7000, which is 293 and 293 from 6707 5293 of 14
        DUE.is("drift 1000, error 293", x.follow(t, 1, 1000, 293), -2);
        DUE.is("tick 2 is too far", x.stop(), 2);
        DUE.is("drift 1000, error 292", x.follow(t, 1, 1000, 292), -2);
        DUE.is("tick 1 is too far", x.stop(), 1);
        DUE.is("drift -1000, error 293", x.follow(t, 1, -1000, 293), -2);
        DUE.is("tick 2 is too far", x.stop(), 2);
        // at tick 2 8000 5000: no tip is farther right than 7000 6000 of 0, which is just 1000 away at each tick
        DUE.is("drift 1000, error 999", x.follow(t, 1, 1000, 999), -2);
        DUE.is("tick 2 is too far", x.stop(), 2);
        DUE.is("drift 1000, error 1000", x.follow(t, 1, 1000, 1000), 2);
        DUE.same("ticks", Use.ticks(x, 2), "0:0 0:0 0:0");
        // at tick 2 4000 5000: 5000 6000 of 8
        DUE.is("drift -1000, error 1000", x.follow(t, 1, -1000, 1000), 3);
        DUE.same("ticks", Use.ticks(x, 3), "8:0 8:0 8:0");
    }

    /** "and each HOP is 1 at most": by the speed of the ARM that follows. */
    private static void eachHopIs1AtMost() {
        for (int speed = 1; speed <= 3; speed++) {
            LedArms x = new LedArms();
            Use.arm(x, 5, 5, 4, 0, 15, 3);
            Use.arm(x, 5, 5, 4, 0, 15, speed);
            for (int far = 0; far <= 3; far++) {
                int t = Use.tape(x, 0, 0, 5, 5 + far);
                boolean fine = far <= speed;
                int made = x.follow(t, 1, 0, 0);
                DUE.is("by " + far + " at speed " + speed, made >= 0, fine);
                DUE.is("stop", x.stop(), fine ? -1 : 1);
            }
        }
    }

    /** One JOINT moves by its SPEED and the others have one place: whichever it is, it is followed. */
    private static void eachJointMovesAlone() {
        for (int moves = 0; moves < 3; moves++) {
            for (int speed = 1; speed <= 3; speed++) {
                LedArms x = new LedArms();
                x.arm(6, 6);
                int pose = 0;
                for (int j = 0; j < 3; j++) {
                    x.joint(0, 2, j == moves ? 0 : 5, j == moves ? 15 : 5, j == moves ? speed : 3);
                    pose += (j == moves ? 8 : 5) << 4 * j;
                }
                int step = speed << 4 * moves;
                int t = Use.tape(x, 0, 0, pose, pose + step, pose + step, pose, pose - step);
                DUE.is("joint " + moves + " by " + speed, x.follow(t, 0, 0, 0), 1);
                DUE.same("its poses", Use.ticks(x, 1), Use.ticks(x, t));
                DUE.is("its way", x.way(), 3 * speed);
            }
        }
    }

    /** POSES are those of the ARM that follows, whatever ARM did so before. */
    private static void posesOfThatArmAlone() {
        LedArms x = new LedArms();
        Use.arm(x, 5, 5, 4, 0, 15, 3);
        Use.arm(x, 5, 5, 4, 0, 7, 3);
        int near = Use.tape(x, 0, 0, 7, 7);
        int far = Use.tape(x, 0, 0, 8, 8);
        DUE.is("the farther one by arm 0", x.follow(far, 0, 0, 0), 2);
        DUE.is("by arm 1", x.follow(far, 1, 0, 0), -2);
        DUE.is("it stops", x.stop(), 0);
        DUE.is("the nearer one by arm 1", x.follow(near, 1, 0, 0), 3);
        DUE.is("the farther one by arm 0 again", x.follow(far, 0, 0, 0), 4);
        DUE.is("shared, arm 1 can't", x.share(2, 0, 1), 0);
        DUE.is("shared, the nearer one is arm 1's", x.share(3, 0, 1), 1);
    }

    /** POSES are of the ARM that follows: "each within its ENDS". */
    private static void posesAreWithinTheEnds() {
        LedArms x = new LedArms();
        Use.arm(x, 5, 5, 4, 0, 15, 3);
        Use.arm(x, 5, 5, 4, 3, 6, 3);
        int[] poses = {2, 3, 6, 7};
        for (int pose : poses) {
            int t = Use.tape(x, 0, 0, pose);
            DUE.is("pose " + pose, x.follow(t, 1, 0, 0) >= 0, pose >= 3 && pose <= 6);
        }
        int t = Use.tape(x, 0, 0, 3, 4, 6, 5, 3);
        int made = x.follow(t, 1, 0, 0);
        DUE.same("on the way no place is beyond an end", Use.ticks(x, made), "3:0 4:0 6:0 5:0 3:0");
        int up = Use.tape(x, 0, 0, 6, 7);
        DUE.is("beyond the high end at tick 1", x.follow(up, 1, 0, 0), -2);
        DUE.is("stop", x.stop(), 1);
        thePoseOfAllHighEnds();
    }

    /** POSES are 0 .. 4095: the last of them is one. */
    private static void thePoseOfAllHighEnds() {
        LedArms x = new LedArms();
        Use.arm(x, 5, 5, 6, 0, 15, 3, 3, 0, 15, 3, 1, 0, 15, 3);
        int last = 15 + 16 * 15 + 256 * 15;
        // no other pose has this tip
        int t = Use.tape(x, 0, 1, last, last - 1, last);
        DUE.is("follow", x.follow(t, 0, 0, 0), 1);
        DUE.same("ticks", Use.ticks(x, 1), last + ":1 " + (last - 1) + ":1 " + last + ":1");
        DUE.is("way", x.way(), 2);
    }

    /** "those with the least way (sum .. of how far places are apart from those a TICK ahead)" */
    private static void theLeastWay() {
        LedArms x = new LedArms();
        Use.arm(x, 5, 5, 1, 0, 15, 3);
        Use.arm(x, 5, 5, 1, 0, 15, 3);
        int t = Use.tape(x, 0, 0, 4, 5, 6, 7, 8, 7, 6, 5, 4);
        DUE.is("as it is", x.follow(t, 1, 0, 0), 1);
        DUE.is("there and back", x.way(), 8);
        // within 1000 of both 4 (5 6) and 8 (4 5) is 6: it need not move
        DUE.is("within 1000", x.follow(t, 1, 0, 1000), 2);
        DUE.is("no way", x.way(), 0);
        // 4: 5000 6000, 8: 4000 5000; 6 is 4293 5707: 707 away from both
        DUE.is("within 707", x.follow(t, 1, 0, 707), 3);
        DUE.is("no way", x.way(), 0);
        DUE.same("at 6", Use.ticks(x, 3), "6:0 6:0 6:0 6:0 6:0 6:0 6:0 6:0 6:0");
        // within 706 of 4 are 3 4 5 (383 and 76), of 8 are 7 8 9: from 5 to 7 and back
        DUE.is("within 706", x.follow(t, 1, 0, 706), 4);
        DUE.is("two there, two back", x.way(), 4);
    }

    /** "sum, over TICKS and JOINTS" */
    private static void wayIsOverAllJoints() {
        LedArms x = new LedArms();
        Use.arm(x, 5, 5, 6, 0, 15, 3, 3, 0, 15, 3, 1, 0, 15, 3);
        int a = 4 + 16 * 4 + 256 * 4;
        int b = 5 + 16 * 2 + 256 * 7;
        int t = Use.tape(x, 0, 0, a, b, a);
        DUE.is("followed by itself", x.follow(t, 0, 0, 0), 1);
        DUE.is("1 and 2 and 3, twice", x.way(), 12);
        DUE.same("the same poses", Use.ticks(x, 1), a + ":0 " + b + ":0 " + a + ":0");
    }

    /** "of several the first by numbers of POSES": joint 2 counts most. */
    private static void theFirstByNumbersOfPoses() {
        LedArms x = new LedArms();
        Use.arm(x, 6, 5, 1, 0, 15, 1);
        Use.arm(x, 5, 5, 1, 0, 15, 3, 1, 0, 15, 3);
        // 7 5 is by 0 and 0 alone; 6 6 by 0 and 4 (64), or by 4 and 12 (196)
        int t = Use.tape(x, 0, 0, 4, 4);
        DUE.is("follow", x.follow(t, 1, 0, 0), 1);
        DUE.same("joint 1 counts 16 times", Use.ticks(x, 1), "64:0 64:0");
        LedArms y = new LedArms();
        Use.arm(y, 5, 5, 2, 0, 15, 3);
        Use.arm(y, 5, 5, 2, 0, 15, 3);
        int u = Use.tape(y, 0, 0, 8);
        // within 2000 of 3 5: x up to 5000: 4 .. 12; all of no way
        DUE.is("follow", y.follow(u, 1, 0, 2000), 1);
        DUE.same("the first of nine", Use.ticks(y, 1), "4:0");
    }

    /** "of several the first .., TICK by TICK": an earlier TICK counts more than a later one. */
    private static void theFirstTickByTick() {
        LedArms x = new LedArms();
        Use.arm(x, 5, 5, 2, 0, 15, 3);
        Use.arm(x, 5, 5, 2, 0, 15, 3);
        // within 766: 7 .. 9, 6 .. 8, 5 .. 7, 4 .. 6: one step down, as soon as can be
        int down = Use.tape(x, 0, 0, 8, 7, 6, 5);
        DUE.is("down", x.follow(down, 1, 0, 766), 1);
        DUE.is("one step", x.way(), 1);
        DUE.same("soon", Use.ticks(x, 1), "7:0 6:0 6:0 6:0");
        int up = Use.tape(x, 0, 0, 5, 6, 7, 8);
        DUE.is("up", x.follow(up, 1, 0, 766), 3);
        DUE.is("one step", x.way(), 1);
        DUE.same("late", Use.ticks(x, 3), "6:0 6:0 6:0 7:0");
    }

    /** "it STOPS at the first TICK that no such row reaches" */
    private static void stopsAtTheFirstTick() {
        LedArms x = fixed(3, 0);
        int t = Use.tape(x, 0, 0, 0, 0, 0);
        DUE.is("no pose is near", x.follow(t, 1, 0, 2000), -2);
        DUE.is("tick 0", x.stop(), 0);
        // at tick 2 the belt has brought it near: but no row begins
        DUE.is("nor later", x.follow(t, 1, 1000, 1000), -2);
        DUE.is("tick 0", x.stop(), 0);
        DUE.is("no tape", x.count(1), 1);
    }

    private static void stopsAtTheLastTick() {
        LedArms x = fixed(0, 0);
        x.tape(0);
        for (int i = 0; i < 40; i++) {
            x.lead(0, 0, 0);
        }
        DUE.is("38 times 50 is near", x.follow(0, 1, 50, 1949), -2);
        DUE.is("39 times 50 is not", x.stop(), 39);
        DUE.is("it is", x.follow(0, 1, 50, 1950), 1);
        DUE.is("it doesn't stop", x.stop(), -1);
        DUE.is("against it", x.follow(0, 1, -50, 1949), -2);
        DUE.is("39 times", x.stop(), 39);
        DUE.is("a drift of 2000", x.follow(0, 1, 2000, 2000), -2);
        DUE.is("stops at tick 2", x.stop(), 2);
    }

    /** A POSE may be near at a TICK and still not be reached. */
    private static void stopsWhereNoRowReaches() {
        LedArms x = new LedArms();
        Use.arm(x, 5, 5, 2, 0, 15, 3);
        Use.arm(x, 5, 5, 2, 0, 15, 1);
        int t = Use.tape(x, 0, 0, 4, 4, 6, 6, 6);
        DUE.is("too slow", x.follow(t, 1, 0, 0), -2);
        DUE.is("tick 2 is not reached", x.stop(), 2);
        // with 766 away: 3 4 5, 3 4 5, 5 6 7: in time
        DUE.is("in time", x.follow(t, 1, 0, 766), 1);
        LedArms y = new LedArms();
        Use.arm(y, 7, 5, 1, 0, 15, 3);
        Use.arm(y, 5, 5, 2, 0, 15, 3, 1, 0, 3, 3);
        // 0 and 3 are places of joint 1; 4 is beyond its end; 1 is one again, but no row gets there
        int u = Use.tape(y, 0, 0, 0, 3, 4, 1);
        DUE.is("a gap", y.follow(u, 1, 0, 0), -2);
        DUE.is("at tick 2", y.stop(), 2);
        // each tick has a near pose; too far from that of the tick ahead, although not from others
        int[][] rows = {{4, 6, 6, 6}, {4, 6, 5, 4}, {5, 4, 6, 6}, {5, 4, 4, 6, 6}, {4, 5, 4, 6, 5}};
        int[] stops = {1, 1, 2, 3, 3};
        for (int i = 0; i < rows.length; i++) {
            LedArms z = new LedArms();
            Use.arm(z, 5, 5, 2, 0, 15, 3);
            Use.arm(z, 5, 5, 2, 0, 15, 1);
            DUE.is("a step of 2", z.follow(Use.tape(z, 0, 0, rows[i]), 1, 0, 0), -2);
            DUE.is("stops at it", z.stop(), stops[i]);
        }
    }

    /** "NONE: no such ones" */
    private static void noSuchOnes() {
        LedArms x = fixed(0, 0);
        int t = Use.tape(x, 0, 0, 0);
        int[][] bad = {{-1, 1}, {1, 1}, {10, 1}, {Integer.MIN_VALUE, 1}, {t, -1}, {t, 2}, {t, Integer.MAX_VALUE}};
        for (int[] b : bad) {
            DUE.is("follow " + Arrays.toString(b), x.follow(b[0], b[1], 0, 0), -1);
        }
        DUE.is("no tape", x.count(1), 1);
        DUE.is("no stop", x.stop(), -1);
        DUE.is("no way", x.way(), -1);
    }

    /** "(an empty TAPE, an ARM without JOINTS)" */
    private static void anEmptyTapeOrAnArmWithoutJoints() {
        LedArms x = new LedArms();
        Use.arm(x, 5, 5, 1, 0, 15, 1);
        x.arm(6, 5);
        int t = Use.tape(x, 0, 0, 0);
        int empty = x.tape(0);
        DUE.is("the tip of no joints is just there, but", x.follow(t, 1, 0, 2000), -1);
        DUE.is("an empty tape", x.follow(empty, 0, 0, 2000), -1);
        x.joint(1, 1, 0, 15, 1);
        DUE.is("now it has one", x.follow(t, 1, 0, 2000), 2);
    }

    /** "or there are 10" */
    private static void thereAreTen() {
        LedArms x = fixed(0, 0);
        int t = Use.tape(x, 0, 0, 0, 0);
        for (int i = 1; i < 10; i++) {
            DUE.is("tape " + i, x.follow(t, 1, 0, 0), i);
        }
        DUE.is("an eleventh", x.follow(t, 1, 0, 0), -1);
        DUE.is("an eleventh that would stop", x.follow(t, 1, 1, 0), -1);
        DUE.is("no stop", x.stop(), -1);
        DUE.is("tapes", x.count(1), 10);
    }

    /** "At which TICK the latest follow() that made a TAPE or STOPPED did STOP; NONE: it didn't." */
    private static void theLatestFollowThatMadeOrStopped() {
        LedArms x = fixed(1, 0);
        int t = Use.tape(x, 0, 0, 0, 0);
        DUE.is("none yet", x.stop(), -1);
        x.follow(t, 1, 0, 999);
        DUE.is("stopped", x.stop(), 0);
        x.follow(t, 1, 0, -1);
        DUE.is("a refused one does not count", x.stop(), 0);
        x.share(1, 1000, 0);
        DUE.is("nor what is shared", x.stop(), 0);
        x.follow(t, 1, 0, 1000);
        DUE.is("made", x.stop(), -1);
        x.follow(t, 1, 0, 2001);
        DUE.is("a refused one does not count", x.stop(), -1);
        x.share(1, 999, 0);
        DUE.is("nor what is shared", x.stop(), -1);
        x.follow(t, 1, -1000, 1000);
        DUE.is("stopped again", x.stop(), 1);
    }

    /** "The way of the TAPE of the latest follow() that made one; NONE: none yet." */
    private static void theWayOfTheLatestTape() {
        LedArms x = new LedArms();
        Use.arm(x, 5, 5, 2, 0, 15, 3);
        Use.arm(x, 5, 5, 2, 0, 15, 1);
        int t = Use.tape(x, 0, 0, 0, 3, 6);
        int one = Use.tape(x, 0, 0, 9);
        DUE.is("none yet", x.way(), -1);
        x.follow(t, 1, 0, 0);
        DUE.is("stopped: none yet", x.way(), -1);
        x.follow(t, 0, 0, 0);
        DUE.is("its way", x.way(), 6);
        x.follow(t, 1, 0, 0);
        DUE.is("stopped: the way stays", x.way(), 6);
        x.follow(t, 0, 0, -1);
        x.share(2, 0, 0);
        DUE.is("refused: the way stays", x.way(), 6);
        x.follow(one, 1, 0, 0);
        DUE.is("a tape of one tick has no way", x.way(), 0);
    }

    /** "(SPRAY as it is)" */
    private static void sprayAsItIs() {
        LedArms x = fixed(0, 1);
        x.tape(0);
        for (int spray = 0; spray <= 9; spray++) {
            x.lead(0, 0, spray);
        }
        x.nozzle(0);
        DUE.is("follow", x.follow(0, 1, 0, 1000), 1);
        DUE.same("ticks", Use.ticks(x, 1), "0:0 0:1 0:2 0:3 0:4 0:5 0:6 0:7 0:8 0:9");
    }

    /** "POSES, one for each TICK t" */
    private static void oneTickAndForty() {
        LedArms x = new LedArms();
        Use.arm(x, 5, 5, 2, 0, 15, 3);
        Use.arm(x, 5, 5, 2, 0, 15, 3);
        int one = Use.tape(x, 0, 7, 9);
        x.tape(0);
        StringBuilder due = new StringBuilder();
        for (int i = 0; i < 40; i++) {
            int pose = Math.abs(15 - i % 30);
            x.lead(1, pose, 3);
            due.append(i == 0 ? "" : " ").append(pose).append(":3");
        }
        DUE.is("one tick", x.follow(one, 1, 0, 0), 2);
        DUE.same("is one", Use.ticks(x, 2), "9:7");
        DUE.is("forty ticks", x.follow(1, 1, 0, 0), 3);
        DUE.same("are forty", Use.ticks(x, 3), due.toString());
        DUE.is("their way", x.way(), 39);
    }

    /** FOLLOWING is of what the TAPE tells, whatever WEAR there is. */
    private static void wearIsNotFollowed() {
        LedArms x = new LedArms();
        Use.arm(x, 5, 5, 2, 0, 15, 3);
        Use.arm(x, 5, 5, 2, 0, 15, 3);
        int t = Use.tape(x, 0, 0, 0, 3, 6);
        x.wear(0, 0, 0, 3, 0);
        x.wear(1, 0, 1, 3, 0);
        DUE.is("follow", x.follow(t, 1, 0, 0), 1);
        DUE.same("as told", Use.ticks(x, 1), "0:0 3:0 6:0");
    }

    private static final int[][] SMALL = {
        {1, 0, 2, 1, 1, 0, 2, 1, 1, 0, 2, 1},
        {2, 3, 5, 1, 1, 6, 8, 2, 2, 1, 3, 3},
        {3, 14, 15, 1, 1, 0, 3, 1, 1, 13, 15, 1},
        {1, 5, 6, 2, 3, 5, 6, 2, 2, 9, 12, 1},
        {2, 0, 5, 1, 1, 0, 3, 1}
    };

    /** Each row of POSES that there is, one by one, for ARMS with few of them: "those with the least way", and the first. */
    private static void allRowsOfSmallArms() {
        int[][] told = {{4, 6, 9, 10}, {0, 0, 3, 4}, {12, 11, 8, 6}, {9, 9, 9, 9}};
        for (int[] joints : SMALL) {
            for (int[] tape : told) {
                for (int error = 0; error <= 2000; error += 400) {
                    oneSmallArm(joints, tape, error, 0);
                    oneSmallArm(joints, tape, error, error - 900);
                }
            }
        }
    }

    private static void oneSmallArm(int[] joints, int[] tape, int error, int drift) {
        LedArms x = new LedArms();
        Use.arm(x, 6, 6, 2, 0, 15, 3);
        Use.arm(x, 6, 6, joints);
        int t = Use.tape(x, 0, 0, tape);
        EveryRow all = new EveryRow(joints);
        for (int i = 0; i < tape.length; i++) {
            all.want(x.look(t, i, 2) + drift * i, x.look(t, i, 3), error);
        }
        String when = Arrays.toString(joints) + " on " + Arrays.toString(tape) + " within " + error + " by " + drift;
        all.tryFrom(0, -1, 0, "");
        boolean some = all.deepest == tape.length;
        DUE.is(when, x.follow(t, 1, drift, error), some ? 1 : -2);
        DUE.is(when + ", stop", x.stop(), some ? -1 : all.deepest);
        DUE.is(when + ", way", x.way(), some ? all.leastWay : -1);
        if (some) {
            DUE.same(when + ", poses", Use.ticks(x, 1), all.first.trim());
        }
    }

    /** Tries the rows of an arm at 6, 6 in the order of their numbers, so that the first of the least stays. */
    private static final class EveryRow {
        private final int[] joints;
        private final java.util.List<int[]> wanted = new java.util.ArrayList<>();
        private int deepest;
        private int leastWay = Integer.MAX_VALUE;
        private String first = "";

        EveryRow(int[] joints) {
            this.joints = joints;
        }

        void want(int tipX, int tipY, int error) {
            wanted.add(new int[] {tipX, tipY, error});
        }

        void tryFrom(int tick, int before, int way, String row) {
            deepest = Math.max(deepest, tick);
            if (tick == wanted.size()) {
                if (way < leastWay) {
                    leastWay = way;
                    first = row;
                }
                return;
            }
            for (int pose = 0; pose < 4096; pose++) {
                int step = isPose(pose) && isNear(pose, wanted.get(tick)) ? step(before, pose) : -1;
                if (step >= 0) {
                    tryFrom(tick + 1, pose, way + step, row + " " + pose + ":0");
                }
            }
        }

        private boolean isPose(int pose) {
            for (int j = 0; j < 3; j++) {
                int place = pose >> 4 * j & 15;
                boolean there = 4 * j < joints.length;
                if (there ? place < joints[4 * j + 1] || place > joints[4 * j + 2] : place != 0) {
                    return false;
                }
            }
            return true;
        }

        private boolean isNear(int pose, int[] want) {
            int[] cos = {1000, 924, 707, 383, 0, -383, -707, -924, -1000, -924, -707, -383, 0, 383, 707, 924};
            int tipX = 6000;
            int tipY = 6000;
            int turned = 0;
            for (int j = 0; 4 * j < joints.length; j++) {
                turned += pose >> 4 * j & 15;
                tipX += joints[4 * j] * cos[turned % 16];
                tipY += joints[4 * j] * cos[(turned + 12) % 16];
            }
            return Math.abs(tipX - want[0]) <= want[2] && Math.abs(tipY - want[1]) <= want[2];
        }

        /** How far all places are apart; -1 if one is farther than its speed. */
        private int step(int before, int pose) {
            int sum = 0;
            for (int j = 0; before >= 0 && 4 * j < joints.length; j++) {
                int far = Math.abs((before >> 4 * j & 15) - (pose >> 4 * j & 15));
                if (far > joints[4 * j + 3]) {
                    return -1;
                }
                sum += far;
            }
            return sum;
        }
    }
}
