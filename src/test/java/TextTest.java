/** Promises 2, 3, 4: bytes, texts and their faults. */
public final class TextTest {
    private static final Due DUE = new Due("TextTest");

    public static void main(String[] args) {
        feeding();
        counts();
        changes();
        joining();
        emptyParts();
        tokens();
        tooMuch();
        noSuch();
        tooLong();
        firstFault();
        manyLines();
        DUE.end();
    }

    /** Arm 0: tape 0 with poses 0 2 3 4 and spray 1 2 3 4, tape 1 empty; arm 1: tape 2 with poses 8 7. */
    private static LedArms shop() {
        LedArms x = new LedArms();
        x.arm(2, 3);
        x.joint(0, 2, 0, 15, 2);
        x.joint(0, 1, 0, 15, 3);
        x.arm(9, 9);
        x.joint(1, 2, 0, 15, 1);
        x.tape(0);
        x.lead(0, 0, 1);
        x.lead(0, 2, 2);
        x.lead(0, 3, 3);
        x.lead(0, 4, 4);
        x.tape(0);
        Use.tape(x, 1, 5, 8, 7);
        return x;
    }

    private static void made(String text, String ticks) {
        LedArms x = shop();
        DUE.is("<" + text + ">", Use.make(x, text), 1);
        DUE.is("<" + text + "> fault", x.fault(0), 0);
        DUE.is("<" + text + "> place", x.fault(1), -1);
        DUE.same("<" + text + "> ticks", Use.ticks(x, 3), ticks);
    }

    private static void faulty(String text, int fault, int place) {
        LedArms x = shop();
        faulty(x, text, fault, place);
    }

    private static void faulty(LedArms x, String text, int fault, int place) {
        int tapes = x.count(1);
        DUE.is("<" + text + ">", Use.make(x, text), -1);
        DUE.is("<" + text + "> fault", x.fault(0), fault);
        DUE.is("<" + text + "> place", x.fault(1), place);
        DUE.is("<" + text + "> tapes", x.count(1), tapes);
        DUE.is("<" + text + "> bytes", x.make(1), -2);
    }

    private static void feeding() {
        LedArms x = shop();
        for (int i = 1; i <= 20; i++) {
            DUE.is("feed " + i, x.feed(0x20202020, 0x0a0a0a0a, 0x20202020, 0x20202020, 0x20202020), 20 * i);
        }
        DUE.is("feed 21", x.feed(0, 0, 0, 0, 0), -1);
        DUE.is("too many bytes", x.make(401), -2);
        DUE.is("blanks alone", x.make(400), 0);
        DUE.is("no bytes then", x.make(1), -2);
        DUE.is("feed anew", x.feed(-1, -2, -3, -4, -5), 20);
        DUE.is("bytes above 127", x.make(20), -1);
        DUE.is("their fault", x.fault(0), 1);
        DUE.is("their place", x.fault(1), 0);
    }

    private static void counts() {
        LedArms x = shop();
        Use.feed(x, "make 0;make 0;");
        DUE.is("below 0", x.make(-1), -2);
        DUE.is("too many", x.make(21), -2);
        DUE.is("far too many", x.make(Integer.MAX_VALUE), -2);
        DUE.is("the least", x.make(Integer.MIN_VALUE), -2);
        DUE.is("the bytes stay, and the first 7 are a text", x.make(7), 1);
        DUE.is("then there are none", x.make(1), -2);
        DUE.is("four tapes", x.count(1), 4);
        Use.feed(x, "make 9;");
        DUE.is("no bytes are an empty text", x.make(0), 0);
        DUE.is("which takes all bytes", x.make(7), -2);
        faulty(x, "make 9;", 3, 5);
        DUE.is("-2 leaves the fault", x.fault(0), 3);
        DUE.is("-2 leaves its place", x.fault(1), 5);
        DUE.is("fault of what 2", x.fault(2), -1);
        DUE.is("fault of what -1", x.fault(-1), -1);
        DUE.is("a text without fault", Use.make(x, "make 0;"), 1);
        DUE.is("takes the fault away", x.fault(0), 0);
        DUE.is("and its place", x.fault(1), -1);
    }

    private static void changes() {
        made("make 0 ;", "0:1 2:2 3:3 4:4");
        made("make 0 back ;", "4:4 3:3 2:2 0:1");
        made("make 0 back back ;", "0:1 2:2 3:3 4:4");
        made("make 0 dry ;", "0:0 2:0 3:0 4:0");
        made("make 0 slow 2 ;", "0:1 0:1 2:2 2:2 3:3 3:3 4:4 4:4");
        made("make 0 slow 1;", "0:1 2:2 3:3 4:4");
        made("make 0 from 1 to 2 slow 2 slow 2;", "2:2 2:2 2:2 2:2 3:3 3:3 3:3 3:3");
        made("make 0 from 1 to 2;", "2:2 3:3");
        made("make 0 from 3 to 3 slow 3 dry back;", "4:4 4:4 4:4".replace(":4", ":0"));
        made("make 0 from 0 to 1 back slow 2;", "2:2 2:2 0:1 0:1");
        made("make 2 back;", "7:5 8:5");
        made("make 0 from 0 to 0 slow 9;", "0:1 0:1 0:1 0:1 0:1 0:1 0:1 0:1 0:1");
    }

    private static void joining() {
        // hop from 4 to 0 is 2 at speed 2: one tick at 4 less 2
        made("make 0 then 0;", "0:1 2:2 3:3 4:4 2:0 0:1 2:2 3:3 4:4");
        // hop 1: nothing in between
        made("make 0 from 3 to 3 then 0 from 1 to 1;", "4:4 2:2");
        made("make 0 then 0 back;", "0:1 2:2 3:3 4:4 4:4 3:3 2:2 0:1");
        // 3 to 0 at speed 2: hop 2; 3 less 3 times 1 by 2, cut towards 0: 3 less 1
        made("make 0 from 2 to 2 then 0 from 0 to 0;", "3:3 2:0 0:1");
        // and up: 0 and 1
        made("make 0 from 0 to 0 then 0 from 2 to 2;", "0:1 1:0 3:3");
        manyJoints();
    }

    private static void manyJoints() {
        LedArms x = new LedArms();
        x.arm(2, 3);
        x.joint(0, 2, 0, 15, 1);
        x.joint(0, 1, 0, 15, 3);
        x.joint(0, 1, 0, 15, 3);
        Use.tape(x, 0, 1, 5 + 16 * 2 + 256 * 9);
        Use.tape(x, 0, 2, 16 * 9 + 256 * 8);
        DUE.is("make", Use.make(x, "make 0 then 1;"), 1);
        StringBuilder due = new StringBuilder("2341:1");
        // hop 5: joint 0 from 5 to 0, joint 1 from 2 to 9 (7 i by 5), joint 2 from 9 to 8 (-i by 5)
        int[][] ways = {{4, 3, 9}, {3, 4, 9}, {2, 6, 9}, {1, 7, 9}};
        for (int[] w : ways) {
            due.append(' ').append(w[0] + 16 * w[1] + 256 * w[2]).append(":0");
        }
        DUE.same("three joints on their way", Use.ticks(x, 2), due.append(" 2192:2").toString());
    }

    private static void emptyParts() {
        made("make 1;", "");
        made("make 1 slow 9 slow 9 slow 9 slow 9 back dry;", "");
        made("make 1 then 0;", "0:1 2:2 3:3 4:4");
        made("make 0 from 3 to 3 then 1 then 0 from 0 to 0;", "4:4 2:0 0:1");
        faulty("make 1 from 0 to 0;", 3, 12);
    }

    private static void tokens() {
        made("make0from1to2slow2;", "2:2 2:2 3:3 3:3");
        made("\n\nmake 0000000000000000000000000000\n;\n ", "0:1 2:2 3:3 4:4");
        made("make 0 from 001 to 0000000000002;", "2:2 3:3");
        faulty("make", 1, 4);
        faulty("make  ", 1, 6);
        faulty("make 0", 1, 6);
        faulty("make 0 from", 1, 11);
        faulty("make 0 from 1", 1, 13);
        faulty("make 0 from 1 to", 1, 16);
        faulty("make 0 slow", 1, 11);
        faulty("make 0 then ", 1, 12);
        faulty("make 0;make 0", 1, 13);
        faulty(";", 1, 0);
        faulty("0;", 1, 0);
        faulty("maker 0;", 1, 0);
        faulty("Make 0;", 1, 0);
        faulty("mak 0;", 1, 0);
        faulty("make back;", 1, 5);
        faulty("make 0 0;", 1, 7);
        faulty("make 0 999;", 1, 7);
        faulty("make 0 to 1;", 1, 7);
        faulty("make 0 back from 0 to 1;", 1, 12);
        faulty("make 0 from 0 1;", 1, 14);
        faulty("make 0 from 0 to back;", 1, 17);
        faulty("make 0 slow back;", 1, 12);
        faulty("make 0 thence 0;", 1, 7);
        faulty("make 0 then;", 1, 11);
        faulty("make 0 make 0;", 1, 7);
        faulty("make 0;;", 1, 7);
        faulty(";".repeat(400), 1, 0);
        faulty("make 1" + " dry".repeat(98) + "  ", 1, 400);
        made("make 1" + "\n".repeat(393) + ";", "");
        faulty("make 0\t;", 1, 6);
        faulty("make 0, then 0;", 1, 6);
        faulty("make -1;", 1, 5);
        faulty("make \u00b2;", 1, 5);
        faulty("make \u0000;", 1, 5);
    }

    private static void tooMuch() {
        faulty("make 100;", 2, 5);
        faulty("make 99999999999999999999;", 2, 5);
        faulty("make 4294967296;", 2, 5);
        faulty("make 0 from 100 to 1;", 2, 12);
        faulty("make 0 from 0 to 100;", 2, 17);
        faulty("make 0 slow 0;", 2, 12);
        faulty("make 0 slow 10;", 2, 12);
        faulty("make 0 slow 100;", 2, 12);
        faulty("make 0 slow 4294967297;", 2, 12);
        String eight = "make 1 then 1 then 1 then 1 then 1 then 1 then 1 then 1";
        made(eight + ";", "");
        faulty(eight + " then 1;", 2, 56);
        faulty(eight + " then", 2, 56);
        faulty(eight + " then 100;", 2, 56);
    }

    private static void noSuch() {
        faulty("make 3;", 3, 5);
        faulty("make 99;", 3, 5);
        faulty("make 0 then 3;", 3, 12);
        faulty("make 0 from 4 to 4;", 3, 12);
        faulty("make 0 from 0 to 4;", 3, 17);
        faulty("make 0 from 2 to 1;", 3, 17);
        faulty("make 0 from 99 to 0;", 3, 12);
        faulty("make 0 then 2;", 4, 12);
        faulty("make 2 then 1;", 4, 12);
        faulty("make 2 then 0 from 9 to 9;", 4, 12);
    }

    private static void tooLong() {
        made("make 0 slow 5 slow 2;", repeat(10));
        faulty("make 0 slow 9 slow 2 ;", 5, 21);
        faulty("make 0 slow 9 slow 9 slow 9 slow 9 slow 9 slow 9 slow 9 slow 9 slow 9 slow 9;", 5, 76);
        // 20 and 1 in between and 20
        faulty("make 0 slow 5 then 0 slow 5;", 5, 27);
        // 20 and none in between and 20
        made("make 0 slow 5 then 0 slow 5 back;", repeat(5) + " " + repeatBack(5));
        faulty("make 0 slow 9 slow 9 then 9;", 3, 26);
        faulty("make 0 slow 9 slow 9 slow 0;", 2, 26);
        faulty("make 0 slow 9 slow 9 then 2;", 4, 26);
        faulty("make 0 slow 9 slow 9", 1, 20);
        LedArms x = shop();
        DUE.is("seven more", Use.make(x, "make 0;make 0;make 0;make 0;make 0;make 0;make 0;"), 7);
        DUE.is("ten", x.count(1), 10);
        faulty(x, "make 0 ;", 5, 7);
        DUE.is("no line, no tape", Use.make(x, " "), 0);
        faulty("make 0;make 0;make 0;make 0;make 0;make 0;make 0;make 0;", 5, 55);
    }

    private static void firstFault() {
        faulty("make 9;make", 3, 5);
        faulty("make 0 ? then 9;", 1, 7);
        faulty("make 0 then 9 ?;", 3, 12);
        faulty("make 0 from 3 to 100 slow 0;", 2, 17);
        faulty("make 0;make 5;", 3, 12);
    }

    private static void manyLines() {
        LedArms x = shop();
        DUE.is("a line's tape for the next one", Use.make(x, "make 0 from 0 to 1; make 3 back; make 4 then 3;"), 3);
        DUE.same("tape 3", Use.ticks(x, 3), "0:1 2:2");
        DUE.same("tape 4", Use.ticks(x, 4), "2:2 0:1");
        DUE.same("tape 5", Use.ticks(x, 5), "2:2 0:1 0:1 2:2");
        faulty(x, "make 6;", 3, 5);
        faulty(x, "make 0;make 6 from 4 to 4;", 3, 19);
        faulty(x, "make 0;make 7;", 3, 12);
        DUE.is("its arm is the first part's", Use.make(x, "make 2;"), 1);
        DUE.is("arm", x.about(6, 0), 1);
        DUE.is("it can be led on", x.lead(6, 6, 0), 3);
        DUE.is("but not with a jump", x.lead(6, 4, 0), -1);
        DUE.is("the tape it came from is as it was", x.about(2, 1), 2);
    }

    private static String repeat(int n) {
        return String.join(" ", rows("0:1", n), rows("2:2", n), rows("3:3", n), rows("4:4", n));
    }

    private static String repeatBack(int n) {
        return String.join(" ", rows("4:4", n), rows("3:3", n), rows("2:2", n), rows("0:1", n));
    }

    private static String rows(String tick, int n) {
        return (tick + " ").repeat(n).trim();
    }
}
