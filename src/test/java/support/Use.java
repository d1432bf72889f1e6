/** Short ways of using an object that many tests need. */
final class Use {
    private Use() {
    }

    /** Feeds a text, with blanks up to a whole number of twenties, and makes it. */
    static int make(LedArms x, String text) {
        feed(x, text);
        return x.make(text.length());
    }

    static int feed(LedArms x, String text) {
        int there = 0;
        for (int i = 0; i < text.length(); i += 20) {
            there = x.feed(four(text, i), four(text, i + 4), four(text, i + 8), four(text, i + 12), four(text, i + 16));
        }
        return there;
    }

    private static int four(String text, int from) {
        int number = 0;
        for (int i = from; i < from + 4; i++) {
            number = number << 8 | (i < text.length() ? text.charAt(i) & 255 : 32);
        }
        return number;
    }

    /** What look() answers, or the name of what it throws. */
    static String look(LedArms x, int tape, int tick, int what) {
        try {
            return Integer.toString(x.look(tape, tick, what));
        } catch (RuntimeException e) {
            return e.getClass().getSimpleName();
        }
    }

    /** A tape's poses and spray, as "pose:spray pose:spray". */
    static String ticks(LedArms x, int tape) {
        StringBuilder s = new StringBuilder();
        for (int i = 0; i < x.about(tape, 1); i++) {
            s.append(i == 0 ? "" : " ").append(x.look(tape, i, 0)).append(':').append(x.look(tape, i, 1));
        }
        return s.toString();
    }

    /** A new tape of an arm with these poses, all of one spray; -9 if the hand can't lead it. */
    static int tape(LedArms x, int arm, int spray, int... poses) {
        int number = x.tape(arm);
        for (int pose : poses) {
            if (x.lead(number, pose, spray) < 0) {
                return -9;
            }
        }
        return number;
    }

    /** A new arm with joints of length, low, high, speed each; -9 if it can't be. */
    static int arm(LedArms x, int baseX, int baseY, int... joints) {
        int number = x.arm(baseX, baseY);
        for (int i = 0; i + 3 < joints.length; i += 4) {
            if (x.joint(number, joints[i], joints[i + 1], joints[i + 2], joints[i + 3]) < 0) {
                return -9;
            }
        }
        return number;
    }

    /** An object with one arm at 5, 5 with one joint of length 4: each direction's tip is on a spot of its own. */
    static LedArms painter() {
        LedArms x = new LedArms();
        arm(x, 5, 5, 4, 0, 15, 3);
        return x;
    }

    /** All that calls which change nothing tell of an object, but the bytes: some 20 calls and 2 for each tick. */
    static String state(LedArms x) {
        StringBuilder s = new StringBuilder();
        for (int i = 0; i < 6; i++) {
            s.append(x.count(i)).append(' ');
        }
        for (int i = 0; i < 4; i++) {
            s.append(x.thick(0, 0, 15, 15, i)).append(' ');
        }
        s.append("fault ").append(x.fault(0)).append(' ').append(x.fault(1));
        s.append(" stop ").append(x.stop()).append(" way ").append(x.way()).append(" met");
        for (int k = 0; x.met(k) >= 0; k++) {
            s.append(' ').append(x.met(k));
        }
        for (int t = 0; t < x.count(1); t++) {
            s.append(" tape ").append(x.about(t, 0)).append(": ").append(ticks(x, t));
        }
        return s.toString();
    }
}
