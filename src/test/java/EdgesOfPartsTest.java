/** The edges that the document names for the parts of a text: cut, turned round, slowed, dried and joined (promise 3). */
public final class EdgesOfPartsTest {
    private static final Due DUE = new Due("EdgesOfPartsTest");

    public static void main(String[] args) {
        fromToOfThem();
        maybeNone();
        inTheOtherOrder();
        eachSoManyTimes();
        sprayIs0();
        wordByWordAsTheyStand();
        changesAreOfTheirPart();
        theTapeItselfStays();
        ofTheFirstPartsArm();
        ifHopIsAbove1();
        betweenThoseWithTicks();
        cutTowards0();
        eachJointOnItsWay();
        ticksInBetweenHaveNoSpray();
        noJump();
        DUE.end();
    }

    /** Tape 0 with poses 4 5 6 7 and spray 1 2 3 4, tape 1 empty, tape 2 with 15, tape 3 with 0; speed 2. */
    private static LedArms shop() {
        LedArms x = new LedArms();
        Use.arm(x, 5, 5, 4, 0, 15, 2);
        x.tape(0);
        for (int i = 0; i < 4; i++) {
            x.lead(0, 4 + i, 1 + i);
        }
        x.tape(0);
        Use.tape(x, 0, 9, 15);
        Use.tape(x, 0, 8, 0);
        return x;
    }

    private static void made(String text, String ticks) {
        LedArms x = shop();
        DUE.is("<" + text + ">", Use.make(x, text), 1);
        DUE.same("<" + text + "> ticks", Use.ticks(x, 4), ticks);
    }

    /** "(from .. to of them ..)": both of them too. */
    private static void fromToOfThem() {
        made("make 0;", "4:1 5:2 6:3 7:4");
        made("make 0 from 0 to 3;", "4:1 5:2 6:3 7:4");
        made("make 0 from 0 to 0;", "4:1");
        made("make 0 from 3 to 3;", "7:4");
        made("make 0 from 1 to 3;", "5:2 6:3 7:4");
        made("make 0 from 0 to 2;", "4:1 5:2 6:3");
    }

    /** "maybe none" */
    private static void maybeNone() {
        made("make 1;", "");
        made("make 1 back;", "");
        made("make 1 dry;", "");
        made("make 1" + " slow 9".repeat(50) + ";", "");
        made("make 1 then 1;", "");
    }

    /** "back: in the other order" */
    private static void inTheOtherOrder() {
        made("make 0 back;", "7:4 6:3 5:2 4:1");
        made("make 0 from 0 to 2 back;", "6:3 5:2 4:1");
        made("make 0 from 1 to 2 back;", "6:3 5:2");
        made("make 2 back;", "15:9");
        made("make 0 back back;", "4:1 5:2 6:3 7:4");
        made("make 0" + " back".repeat(77) + ";", "7:4 6:3 5:2 4:1");
    }

    /** "slow N: each so many times one behind the other" */
    private static void eachSoManyTimes() {
        made("make 0 slow 1;", "4:1 5:2 6:3 7:4");
        made("make 0 from 0 to 1 slow 3;", "4:1 4:1 4:1 5:2 5:2 5:2");
        made("make 2 slow 9;", "15:9 15:9 15:9 15:9 15:9 15:9 15:9 15:9 15:9");
        made("make 0 from 0 to 1 slow 2 slow 2;", "4:1 4:1 4:1 4:1 5:2 5:2 5:2 5:2");
    }

    /** "dry: SPRAY 0" */
    private static void sprayIs0() {
        made("make 0 dry;", "4:0 5:0 6:0 7:0");
        made("make 0 from 3 to 3 dry;", "7:0");
        made("make 2 dry dry;", "15:0");
    }

    /** "changed word by word as they stand" */
    private static void wordByWordAsTheyStand() {
        made("make 0 from 1 to 2 back slow 2 dry;", "6:0 6:0 5:0 5:0");
        made("make 0 from 1 to 2 dry slow 2 back;", "6:0 6:0 5:0 5:0");
        made("make 0 from 1 to 2 back slow 2 back;", "5:2 5:2 6:3 6:3");
        made("make 0 from 1 to 2 slow 2 slow 3 back back;", "5:2 5:2 5:2 5:2 5:2 5:2 6:3 6:3 6:3 6:3 6:3 6:3");
    }

    /** A PART's words change that PART alone. */
    private static void changesAreOfTheirPart() {
        made("make 0 dry then 0 back;", "4:0 5:0 6:0 7:0 7:4 6:3 5:2 4:1");
        made("make 0 back then 0 dry;", "7:4 6:3 5:2 4:1 4:0 5:0 6:0 7:0");
        made("make 0 then 0 back dry;", "4:1 5:2 6:3 7:4 7:0 6:0 5:0 4:0");
        made("make 0 from 3 to 3 slow 2 then 0 from 3 to 3;", "7:4 7:4 7:4");
    }

    /** make makes a new TAPE; the others are as they were. */
    private static void theTapeItselfStays() {
        LedArms x = shop();
        DUE.is("three lines", Use.make(x, "make 0 back dry slow 2;make 4 from 0 to 0;make 4 back;"), 3);
        DUE.same("tape 0", Use.ticks(x, 0), "4:1 5:2 6:3 7:4");
        DUE.same("tape 4", Use.ticks(x, 4), "7:0 7:0 6:0 6:0 5:0 5:0 4:0 4:0");
        DUE.same("tape 5", Use.ticks(x, 5), "7:0");
        DUE.same("tape 6", Use.ticks(x, 6), "4:0 4:0 5:0 5:0 6:0 6:0 7:0 7:0");
        x.lead(4, 4, 9);
        DUE.is("led on", x.about(4, 1), 9);
        DUE.is("those made of it stay", x.about(6, 1), 8);
    }

    /** "a new TAPE (of the first PART's ARM)" */
    private static void ofTheFirstPartsArm() {
        LedArms x = shop();
        Use.arm(x, 9, 9, 1, 0, 15, 1);
        Use.tape(x, 1, 3, 8);
        x.tape(1);
        DUE.is("lines", Use.make(x, "make 4;make 5;make 5 then 4;make 1;"), 4);
        int[] due = {1, 1, 1, 0};
        for (int i = 0; i < due.length; i++) {
            DUE.is("the arm of tape " + (6 + i), x.about(6 + i, 0), due[i]);
        }
    }

    /** "if HOP is above 1, HOP less 1 TICKS of SPRAY 0" */
    private static void ifHopIsAbove1() {
        // hops at speed 2: 0, 1, 1, 2, 2 for 0, 1, 2, 3, 4 apart
        made("make 0 then 0 from 3 to 3;", "4:1 5:2 6:3 7:4 7:4");
        made("make 0 then 0 from 2 to 2;", "4:1 5:2 6:3 7:4 6:3");
        made("make 0 then 0 from 1 to 1;", "4:1 5:2 6:3 7:4 5:2");
        made("make 0 then 0 from 0 to 0;", "4:1 5:2 6:3 7:4 6:0 4:1");
        made("make 0 from 0 to 0 then 3;", "4:1 2:0 0:8");
        // 15 apart: hop 8, seven ticks
        made("make 3 then 2;", "0:8 1:0 3:0 5:0 7:0 9:0 11:0 13:0 15:9");
        made("make 2 then 3;", "15:9 14:0 12:0 10:0 8:0 6:0 4:0 2:0 0:8");
    }

    /** "between two of them (those with TICKS)" */
    private static void betweenThoseWithTicks() {
        made("make 0 from 0 to 0 then 1 then 3;", "4:1 2:0 0:8");
        made("make 1 then 0 from 0 to 0 then 1 then 1 then 3 then 1;", "4:1 2:0 0:8");
        made("make 1 then 2;", "15:9");
        made("make 2 then 1;", "15:9");
        made("make 3 then 1 slow 9 then 0 from 0 to 0;", "0:8 2:0 4:1");
    }

    /** "a and (b less a) times i by HOP, cut towards 0" */
    private static void cutTowards0() {
        LedArms x = new LedArms();
        Use.arm(x, 5, 5, 4, 0, 15, 3);
        Use.tape(x, 0, 1, 1);
        Use.tape(x, 0, 2, 9);
        Use.tape(x, 0, 3, 14);
        // 8 by 3 and 16 by 3: 2 and 5, up and down; 13 by 5: 2 5 7 10
        DUE.is("lines", Use.make(x, "make 0 then 1;make 1 then 0;make 0 then 2;make 2 then 0;"), 4);
        DUE.same("up", Use.ticks(x, 3), "1:1 3:0 6:0 9:2");
        DUE.same("down", Use.ticks(x, 4), "9:2 7:0 4:0 1:1");
        DUE.same("far up", Use.ticks(x, 5), "1:1 3:0 6:0 8:0 11:0 14:3");
        DUE.same("far down", Use.ticks(x, 6), "14:3 12:0 9:0 7:0 4:0 1:1");
    }

    /** "each JOINT is on its way from a to b" */
    private static void eachJointOnItsWay() {
        LedArms x = new LedArms();
        Use.arm(x, 5, 5, 4, 0, 15, 3, 1, 0, 15, 1, 1, 0, 15, 2);
        int a = 8 + 16 * 5 + 256 * 3;
        int b = 10 + 16 * 2 + 256 * 4;
        Use.tape(x, 0, 1, a);
        Use.tape(x, 0, 2, b);
        // hop 3 of joint 1: joint 0 by 2 (0, 1), joint 1 by -3 (-1, -2), joint 2 by 1 (0, 0)
        DUE.is("there and back", Use.make(x, "make 0 then 1;make 1 then 0;"), 2);
        int c = 8 + 16 * 4 + 256 * 3;
        int d = 9 + 16 * 3 + 256 * 3;
        DUE.same("there", Use.ticks(x, 2), a + ":1 " + c + ":0 " + d + ":0 " + b + ":2");
        // joint 0 by -2 (0, -1), joint 1 by 3 (1, 2), joint 2 by -1 (0, 0)
        int e = 10 + 16 * 3 + 256 * 4;
        int f = 9 + 16 * 4 + 256 * 4;
        DUE.same("back", Use.ticks(x, 3), b + ":2 " + e + ":0 " + f + ":0 " + a + ":1");
    }

    /** "TICKS of SPRAY 0": they lay nothing. */
    private static void ticksInBetweenHaveNoSpray() {
        LedArms x = shop();
        Use.make(x, "make 3 then 2;");
        DUE.is("two strokes of nine ticks", x.play(4, 0, 0), 17);
        DUE.is("two spots", x.count(4), 2);
    }

    /** "without a jump": from TICK to TICK HOP is 1 at most, wherever two PARTS are joined. */
    private static void noJump() {
        for (int speed = 1; speed <= 3; speed++) {
            for (int from = 0; from < 16; from++) {
                for (int to = 0; to < 16; to++) {
                    LedArms x = new LedArms();
                    Use.arm(x, 5, 5, 4, 0, 15, speed);
                    Use.tape(x, 0, 1, from);
                    Use.tape(x, 0, 2, to);
                    Use.make(x, "make 0 then 1;");
                    int ticks = x.about(2, 1);
                    DUE.is("ticks from " + from + " to " + to, ticks, Math.max(x.hop(0, from, to), 1) + 1);
                    for (int i = 1; i < ticks; i++) {
                        int hop = x.hop(0, x.look(2, i - 1, 0), x.look(2, i, 0));
                        DUE.is("hop to tick " + i + " from " + from + " to " + to, hop <= 1, true);
                    }
                }
            }
        }
    }
}
