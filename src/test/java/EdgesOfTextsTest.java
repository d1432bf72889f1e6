import java.util.Arrays;
import java.util.List;

/** The edges that the document names for bytes, texts and their faults (promises 2, 3, 4). */
public final class EdgesOfTextsTest {
    private static final Due DUE = new Due("EdgesOfTextsTest");
    private static final int BLANKS = 0x20202020;
    private static final String EIGHT = "make 1 then 1 then 1 then 1 then 1 then 1 then 1 then 1";

    public static void main(String[] args) {
        bytesAreAtMost400();
        theHighestByteComesFirst();
        theFirstNBytesAreTheText();
        thereAreNoneThen();
        notSoManyBytesOrBelow0();
        faultOfTheLatestMake();
        blanksAre10And32();
        wordsAreWhole();
        eachLetterOfAWordCounts();
        whatCanStandWhere();
        moreMustCome();
        numbersAreFrom0To99();
        slowIsFrom1To9();
        partsAreAtMostEight();
        noSuchTape();
        noSuchTick();
        toLessThanFrom();
        tapesOfUnlikeArms();
        moreThan40Ticks();
        theEleventhTape();
        theFirstFaultAlongTheText();
        ofOnePlaceTheLeast();
        withAFaultNoTapeIsMade();
        theNextTextIsReadAnew();
        DUE.end();
    }

    /** Arm 0: tape 0 with poses 0 2 3 4, tape 1 empty, tape 2 with 40 ticks; arm 1: tape 3 with a tick, tape 4 empty. */
    private static LedArms shop() {
        LedArms x = new LedArms();
        Use.arm(x, 2, 3, 2, 0, 15, 2);
        Use.arm(x, 9, 9, 2, 0, 15, 1);
        Use.tape(x, 0, 5, 0, 2, 3, 4);
        x.tape(0);
        x.tape(0);
        for (int i = 0; i < 40; i++) {
            x.lead(2, i / 4, i % 10);
        }
        Use.tape(x, 1, 5, 8);
        x.tape(1);
        return x;
    }

    private static void made(String text, int tapes) {
        LedArms x = shop();
        DUE.is("<" + text + ">", Use.make(x, text), tapes);
        DUE.is("<" + text + "> fault", x.fault(0), 0);
        DUE.is("<" + text + "> place", x.fault(1), -1);
        DUE.is("<" + text + "> tapes", x.count(1), 5 + tapes);
    }

    private static void faulty(String text, int fault, int place) {
        LedArms x = shop();
        faulty(x, text, fault, place);
    }

    private static void faulty(LedArms x, String text, int fault, int place) {
        int tapes = x.count(1);
        DUE.is("<" + text + ">", Use.make(x, text), -1);
        DUE.is("<" + text + "> fault", x.fault(0), fault);
        DUE.is("<" + text + "> place", x.fault(1), place);
        DUE.is("<" + text + "> tapes", x.count(1), tapes);
    }

    /** "NONE, and none come, if there would be more than 400." */
    private static void bytesAreAtMost400() {
        LedArms x = new LedArms();
        for (int i = 1; i <= 20; i++) {
            DUE.is("twenty bytes more", x.feed(BLANKS, BLANKS, BLANKS, BLANKS, BLANKS), 20 * i);
        }
        DUE.is("beyond 400", x.feed(BLANKS, BLANKS, BLANKS, BLANKS, BLANKS), -1);
        DUE.is("and again", x.feed(0x41414141, 0x41414141, 0x41414141, 0x41414141, 0x41414141), -1);
        DUE.is("none came", x.make(401), -2);
        DUE.is("the 400 are as they were", x.make(400), 0);
        DUE.is("room again", x.feed(BLANKS, BLANKS, BLANKS, BLANKS, BLANKS), 20);
        LedArms y = shop();
        DUE.is("a text of 400 bytes", Use.make(y, "make 0" + " ".repeat(393) + ";"), 1);
        faulty(shop(), " ".repeat(399) + "?", 1, 399);
    }

    /** "four of each number, the highest first" */
    private static void theHighestByteComesFirst() {
        for (int at = 0; at < 20; at++) {
            for (int sign = 0; sign < 256; sign += 17) {
                // none of 0, 17, .. 255 is a blank, and none of them can stand in a text alone
                int[] five = {BLANKS, BLANKS, BLANKS, BLANKS, BLANKS};
                int shift = 24 - 8 * (at % 4);
                five[at / 4] = five[at / 4] & ~(255 << shift) | sign << shift;
                LedArms x = new LedArms();
                DUE.is("twenty", x.feed(five[0], five[1], five[2], five[3], five[4]), 20);
                DUE.is("sign " + sign + " at " + at, x.make(20), -1);
                DUE.is("sign " + sign + "'s place", x.fault(1), at);
            }
        }
    }

    /** "The first n bytes .. are a TEXT" */
    private static void theFirstNBytesAreTheText() {
        String text = "make 0;make 0 from 1 to 12; ?";
        int[] due = {0, -1, -1, -1, -1, -1, -1, 1, -1, -1, -1, -1, -1, -1, -1, -1, -1, -1, -1, -1, -1, -1, -1, -1, -1, -1, -1, -1};
        int[] places = {-1, 0, 0, 0, 4, 5, 6, -1, 7, 7, 7, 11, 12, 13, 14, 14, 14, 14, 18, 19, 20, 21, 21, 23, 24, 25, 24, 24};
        for (int n = 0; n < due.length; n++) {
            LedArms x = shop();
            Use.feed(x, text);
            DUE.is("the first " + n, x.make(n), due[n]);
            DUE.is("the first " + n + ", place", x.fault(1), places[n]);
        }
        LedArms y = shop();
        Use.feed(y, "make 0;?");
        DUE.is("what is behind is no part of it", y.make(7), 1);
    }

    /** "(there are none then)" */
    private static void thereAreNoneThen() {
        int[] lengths = {0, 1, 7, 19, 20};
        for (int n : lengths) {
            LedArms x = shop();
            Use.feed(x, "make 0;             ");
            x.make(n);
            DUE.is("after make(" + n + "), one byte", x.make(1), -2);
            DUE.is("after make(" + n + "), twenty more", x.feed(BLANKS, BLANKS, BLANKS, BLANKS, BLANKS), 20);
        }
    }

    /** "-2, and the bytes stay: there are not so many, n is below 0." */
    private static void notSoManyBytesOrBelow0() {
        int[] bad = {-1, -2, 21, 400, 401, Integer.MIN_VALUE, Integer.MAX_VALUE};
        for (int n : bad) {
            LedArms x = shop();
            DUE.is("one byte of none", x.make(1), -2);
            Use.feed(x, "make 0;make 0;");
            DUE.is("make(" + n + ")", x.make(n), -2);
            DUE.is("nothing is made", x.count(1), 5);
            DUE.is("twenty more", x.feed(BLANKS, BLANKS, BLANKS, BLANKS, BLANKS), 40);
            DUE.is("the bytes are as they were", x.make(40), 2);
        }
    }

    /** "Of the latest make() that was not -2, what 0: its FAULT (0), 1: its place (NONE without). NONE for another what." */
    private static void faultOfTheLatestMake() {
        LedArms x = shop();
        int[] other = {-1, 2, Integer.MIN_VALUE, Integer.MAX_VALUE};
        DUE.is("no make yet", x.fault(0), 0);
        DUE.is("no place yet", x.fault(1), -1);
        faulty(x, " make 77;", 3, 6);
        x.make(1);
        x.make(-1);
        DUE.is("-2 leaves the fault", x.fault(0), 3);
        DUE.is("-2 leaves its place", x.fault(1), 6);
        for (int what : other) {
            DUE.is("what " + what, x.fault(what), -1);
        }
        DUE.is("an empty text", x.make(0), 0);
        DUE.is("has no fault", x.fault(0), 0);
        DUE.is("and no place", x.fault(1), -1);
    }

    /** "Blanks 10, 32." */
    private static void blanksAre10And32() {
        for (int sign = 0; sign < 256; sign++) {
            LedArms x = shop();
            String text = "make 0" + (char) sign + ";";
            boolean blank = sign == 10 || sign == 32;
            boolean digit = sign >= '0' && sign <= '9';
            int due = blank || digit && sign <= '4' ? 1 : -1;
            DUE.is("sign " + sign + " ahead of ;", Use.make(x, text), due);
            // 0 and a digit is a number, of no tape from 5 on; ; ends the line, and the second one can't stand
            int fault = due == 1 ? 0 : digit ? 3 : 1;
            int place = due == 1 ? -1 : digit ? 5 : sign == ';' ? 7 : 6;
            DUE.is("sign " + sign + "'s fault", x.fault(0), fault);
            DUE.is("sign " + sign + "'s place", x.fault(1), place);
        }
    }

    /** "Words: small letters in a row" */
    private static void wordsAreWhole() {
        String[] words = {"make", "then", "from", "to", "back", "slow", "dry"};
        String[] ahead = {"", "make 0 ", "make 0 ", "make 0 from 0 ", "make 0 ", "make 0 ", "make 0 "};
        String[] behind = {" 0;", " 0;", " 0 to 0;", " 0;", ";", " 1;", ";"};
        for (int i = 0; i < words.length; i++) {
            String w = words[i];
            made(ahead[i] + w + behind[i], 1);
            String[] wrong = {w + "s", "a" + w, w.substring(1), w.substring(0, w.length() - 1), w.toUpperCase(), w + w};
            for (String v : wrong) {
                faulty(ahead[i] + v + behind[i], 1, ahead[i].length());
            }
            // a blank within the word: its first half is no word
            faulty(ahead[i] + w.charAt(0) + " " + w.substring(1) + behind[i], 1, ahead[i].length());
        }
        made("make0from0to0back slow1dry then0;", 1);
    }

    /** "1 a TOKEN that is none": one letter changed, at each place, is another word. */
    private static void eachLetterOfAWordCounts() {
        String[] words = {"make", "then", "from", "to", "back", "slow", "dry"};
        String[] ahead = {"", "make 0 ", "make 0 ", "make 0 from 0 ", "make 0 ", "make 0 ", "make 0 "};
        String[] behind = {" 0;", " 0;", " 0 to 0;", " 0;", ";", " 1;", ";"};
        for (int i = 0; i < words.length; i++) {
            for (int at = 0; at < words[i].length(); at++) {
                char[] other = words[i].toCharArray();
                other[at]++;
                faulty(ahead[i] + new String(other) + behind[i], 1, ahead[i].length());
            }
        }
    }

    private static void canStand(String ahead, String... tokens) {
        List<String> fine = Arrays.asList(tokens);
        String[] all = {"make", "then", "from", "to", "back", "slow", "dry", "1", ";", "?", "N", "or"};
        for (String token : all) {
            String text = ahead.isEmpty() ? token : ahead + " " + token;
            if (!fine.contains(token)) {
                faulty(text, 1, text.length() - token.length());
            } else if (token.equals(";")) {
                made(text, 1);
            } else {
                // more must come
                faulty(text, 1, text.length());
            }
        }
    }

    /** "LINE: make PART { then PART }. PART: N [ from N to N ] { back | slow N | dry }"; "a TOKEN that .. can't stand there" */
    private static void whatCanStandWhere() {
        String[] changes = {"back", "slow", "dry", "then", ";"};
        canStand("", "make");
        canStand("make", "1");
        canStand("make 0", "from", "back", "slow", "dry", "then", ";");
        canStand("make 0 from", "1");
        canStand("make 0 from 1", "to");
        canStand("make 0 from 1 to", "1");
        canStand("make 0 from 1 to 2", changes);
        canStand("make 0 back", changes);
        canStand("make 0 dry", changes);
        canStand("make 0 slow", "1");
        canStand("make 0 slow 2", changes);
        canStand("make 0 then", "1");
        canStand("make 0 then 0", "from", "back", "slow", "dry", "then", ";");
        canStand("make 0 then 0 from 0 to 0", changes);
        faulty("make 0; 0;", 1, 8);
        faulty("make 0; then 0;", 1, 8);
        faulty("make 0; ;", 1, 8);
        faulty("make 0; make", 1, 12);
        made("make 0; make 0;", 2);
    }

    /** "(the length, if more must come)" */
    private static void moreMustCome() {
        faulty("make 0", 1, 6);
        faulty("make 0  \n ", 1, 10);
        faulty("make 0;make 0 ", 1, 14);
        faulty(EIGHT, 1, EIGHT.length());
        made("make 0; \n", 1);
        made("", 0);
        made("  ", 0);
        LedArms x = shop();
        Use.feed(x, "make 0              ;");
        DUE.is("the first 20 of 40 bytes", x.make(20), -1);
        DUE.is("its fault", x.fault(0), 1);
        DUE.is("the length is 20", x.fault(1), 20);
    }

    /** "N: digits, 0 .. 99"; "2 too much (at it): a number beyond what is said" */
    private static void numbersAreFrom0To99() {
        String[] beyond = {"100", "101", "999", "0100", "2147483648", "4294967296", "18446744073709551616",
            "1" + "0".repeat(60)};
        for (String n : beyond) {
            faulty("make " + n + ";", 2, 5);
            faulty("make 0 then " + n + ";", 2, 12);
            faulty("make 2 from " + n + " to 1;", 2, 12);
            faulty("make 2 from 0 to " + n + ";", 2, 17);
        }
        // up to 99 they are numbers, of no tape and no tick
        faulty("make 99;", 3, 5);
        faulty("make 2 from 99 to 99;", 3, 12);
        faulty("make 2 from 0 to 99;", 3, 17);
        made("make 00 from 000 to 0003 slow 0009;", 1);
    }

    /** "slow's 1 .. 9" */
    private static void slowIsFrom1To9() {
        for (int n = 0; n <= 12; n++) {
            String text = "make 0 from 0 to 0 slow " + n + ";";
            if (n >= 1 && n <= 9) {
                LedArms x = shop();
                DUE.is(text, Use.make(x, text), 1);
                DUE.is(text + " ticks", x.about(5, 1), n);
            } else {
                faulty(text, 2, 24);
            }
        }
        faulty("make 0 slow 99;", 2, 12);
        faulty("make 0 slow 100;", 2, 12);
        faulty("make 1 slow 0;", 2, 12);
        faulty("make 0 slow 4294967297;", 2, 12);
    }

    /** "a ninth PART of a LINE (at then)" */
    private static void partsAreAtMostEight() {
        made(EIGHT + ";", 1);
        made(EIGHT + ";" + EIGHT + ";", 2);
        faulty(EIGHT + " then 1;", 2, EIGHT.length() + 1);
        faulty(EIGHT + "\n\nthen", 2, EIGHT.length() + 2);
        faulty(EIGHT + " dry then 77;", 2, EIGHT.length() + 5);
        faulty("make 0;" + EIGHT + " then 1;", 2, EIGHT.length() + 8);
        LedArms x = shop();
        DUE.is("eight parts", Use.make(x, EIGHT.replace('1', '3') + ";"), 1);
        DUE.is("eight ticks", x.about(5, 1), 8);
    }

    /** "3 no such TAPE (at N; those made by LINES ahead count)" */
    private static void noSuchTape() {
        faulty("make 5;", 3, 5);
        faulty("make 0 then 5;", 3, 12);
        made("make 0;make 5;", 2);
        faulty("make 0;make 6;", 3, 12);
        made("make 0;make 5;make 6 then 5;", 3);
        faulty("make 0;make 5 then 6;", 3, 19);
        LedArms x = new LedArms();
        Use.arm(x, 2, 3, 2, 0, 15, 2);
        faulty(x, "make 0;", 3, 5);
        DUE.is("a fault leaves no tape for the next text", x.make(0), 0);
        x.tape(0);
        faulty(x, "make 0;make 0;make 9;", 3, 19);
        faulty(x, "make 1;", 3, 5);
    }

    /** "no such TICK (at its N)" */
    private static void noSuchTick() {
        made("make 0 from 0 to 3;", 1);
        faulty("make 0 from 4 to 4;", 3, 12);
        faulty("make 0 from 0 to 4;", 3, 17);
        faulty("make 0 from 4 to 3;", 3, 12);
        made("make 2 from 0 to 39;", 1);
        made("make 2 from 39 to 39;", 1);
        faulty("make 2 from 40 to 40;", 3, 12);
        faulty("make 2 from 39 to 40;", 3, 18);
        faulty("make 1 from 0 to 0;", 3, 12);
        faulty("make 0 then 1 from 0 to 0;", 3, 19);
        // the ticks are those of the tape, not of what words made of it
        faulty("make 0 slow 2 then 0 from 4 to 5;", 3, 26);
        made("make 0 slow 2;make 5 from 4 to 7;", 2);
    }

    /** "to less than from (at to's N)" */
    private static void toLessThanFrom() {
        made("make 0 from 2 to 2;", 1);
        faulty("make 0 from 2 to 1;", 3, 17);
        faulty("make 0 from 3 to 0;", 3, 17);
        faulty("make 2 from 39 to 38;", 3, 18);
        made("make 0 from 02 to 2;", 1);
    }

    /** "4 TAPES of unlike ARMS (at N)" */
    private static void tapesOfUnlikeArms() {
        faulty("make 0 then 3;", 4, 12);
        faulty("make 3 then 0;", 4, 12);
        faulty("make 1 then 3;", 4, 12);
        faulty("make 0 then 4;", 4, 12);
        faulty("make 4 then 1;", 4, 12);
        faulty("make 0 then 0 then 3;", 4, 19);
        made("make 3 then 4;", 1);
        made("make 0;make 3;", 2);
        made("make 3;make 5 then 4;", 2);
        faulty("make 3;make 5 then 0;", 4, 19);
    }

    /** "5 the TAPE would have more than 40 TICKS .. (at the ; of its LINE)" */
    private static void moreThan40Ticks() {
        made("make 2;", 1);
        faulty("make 2 then 0 from 0 to 0 ;", 5, 26);
        faulty("make 2 slow 2 ;", 5, 14);
        made("make 2 from 0 to 19 slow 2;", 1);
        faulty("make 2 from 0 to 20 slow 2;", 5, 26);
        made("make 2 from 0 to 3 slow 9 then 2 from 0 to 3;", 1);
        faulty("make 2 from 0 to 3 slow 9 then 2 from 0 to 4;", 5, 44);
        made("make 2 then 1;", 1);
        made("make 1 then 2;", 1);
        // 9 then 0 is hop 5: four ticks in between
        made("make 2 from 10 to 39 then 2 from 0 to 5;", 1);
        made("make 2 from 9 to 39 then 2 from 0 to 4;", 1);
        faulty("make 2 from 9 to 39 then 2 from 0 to 5;", 5, 38);
        faulty("make 0;make 2 slow 9 slow 9 slow 9 slow 9 slow 9 slow 9 slow 9 slow 9 slow 9 slow 9 slow 9;", 5, 90);
    }

    /** "or be the eleventh (at the ; of its LINE)" */
    private static void theEleventhTape() {
        made("make 1;make 1;make 1;make 1;make 1;", 5);
        faulty("make 1;make 1;make 1;make 1;make 1;make 1 ;", 5, 42);
        LedArms x = shop();
        for (int i = 0; i < 5; i++) {
            DUE.is("one more", Use.make(x, "make 0;"), 1);
        }
        faulty(x, "make 0;", 5, 6);
        faulty(x, "make 10;", 3, 5);
        faulty(x, "make 9 slow 9 slow 9;", 5, 20);
        DUE.is("no line is no tape", Use.make(x, " \n "), 0);
        DUE.is("ten", x.count(1), 10);
    }

    /** "FAULTS, the first along the text .., with its place" */
    private static void theFirstFaultAlongTheText() {
        faulty("make 77 then 100;", 3, 5);
        faulty("make 100 then 77;", 2, 5);
        faulty("make 0 then 3 from 9 to 1;", 4, 12);
        faulty("make 0 from 9 to 1 then 3;", 3, 12);
        faulty("make 2 slow 2 then 77;", 3, 19);
        faulty("make 2 slow 2 then 3;", 4, 19);
        faulty("make 2 slow 2 slow 0;", 2, 19);
        faulty("make 2 slow 2", 1, 13);
        faulty("make 2 slow 2;make 77;", 5, 13);
        faulty("make 2 slow 2;make", 5, 13);
        faulty("make 1;make 1;make 1;make 1;make 1;make 1;make 77;", 5, 41);
        faulty("make 77;?", 3, 5);
        faulty("? make 77;", 1, 0);
    }

    /** "(of one place the least)" */
    private static void ofOnePlaceTheLeast() {
        // no number of a tape beyond 99: too much, and no such tape
        faulty("make 100;", 2, 5);
        // too much, no such tick, and less than from
        faulty("make 0 from 1 to 100;", 2, 17);
        // a ninth part: too much, and a then that stands well
        faulty(EIGHT + " then 77;", 2, EIGHT.length() + 1);
        // no such tape has no arm that could be unlike
        faulty("make 0 then 77;", 3, 12);
        // a ; that can't stand there, although the tape would be too long
        faulty("make 2 slow 2 then;", 1, 18);
        faulty("make 2 slow 2 slow;", 1, 18);
        // numbers beyond what is said, where no number can stand
        faulty("100", 1, 0);
        faulty("make 0 100;", 1, 7);
        faulty("make 0 from 0 100;", 1, 14);
        faulty("make 0 slow 2 100;", 1, 14);
        faulty("make 0;100", 1, 7);
        // a then that would begin a ninth part, where no then can stand
        faulty(EIGHT + " from then 1;", 1, EIGHT.length() + 6);
        faulty(EIGHT + " slow then 1;", 1, EIGHT.length() + 6);
        // a tape of another arm, which there is not at all; and one that there is, with a tick that it has not
        faulty("make 3 then 5;", 3, 12);
        faulty("make 0 then 4 from 0 to 0;", 4, 12);
    }

    /** "With a FAULT no TAPE is made." */
    private static void withAFaultNoTapeIsMade() {
        LedArms x = shop();
        String before = Use.state(x);
        faulty(x, "make 0;make 0;make 0 slow 0;", 2, 26);
        faulty(x, "make 0;make 0;make 0;make 0;make 0;make 0;", 5, 41);
        faulty(x, "make 0;make 5;make 6", 1, 20);
        String after = Use.state(x);
        DUE.same("all but the fault is as it was", after.replace("fault 1 20", "fault 0 -1"), before);
        DUE.is("the next text makes the next tape", Use.make(x, "make 0 from 1 to 1;"), 1);
        DUE.same("its ticks", Use.ticks(x, 5), "2:5");
    }

    /** Whatever FAULT a text has, the next one is read as if it were the first. */
    private static void theNextTextIsReadAnew() {
        String[] faults = {"make", "make 0 slow 0;", "make 77;", "make 0 then 3;", "make 2 slow 2;", "make 2 slow 2 then 77;",
            "make 2 then 2;", EIGHT + " then 1;", "make 1;make 1;make 1;make 1;make 1;make 1;", "make 0 back dry slow 2 ?"};
        for (String text : faults) {
            LedArms x = shop();
            DUE.is("<" + text + ">", Use.make(x, text), -1);
            DUE.is("behind <" + text + ">", Use.make(x, "make 0;make 5 then 3;"), -1);
            DUE.is("its fault", x.fault(0), 4);
            DUE.is("its place", x.fault(1), 19);
            DUE.is("behind both", Use.make(x, "make 0;make 5 back;"), 2);
            DUE.is("no fault", x.fault(0), 0);
            DUE.same("the first line's ticks", Use.ticks(x, 5), "0:5 2:5 3:5 4:5");
            DUE.same("the second line's ticks", Use.ticks(x, 6), "4:5 3:5 2:5 0:5");
        }
    }
}
