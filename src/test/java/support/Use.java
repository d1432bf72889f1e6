/** Short ways of using an object that many tests need. */
final class Use {
    private Use() {
    }

    /** Feeds a text, with blanks up to a whole number of twenties, and makes it. */
    static int make(LedArms x, String text) {
        feed(x, text);
        return x.make(text.length());
    }

    static int feed(LedArms x, String text) {
        int there = 0;
        for (int i = 0; i < text.length(); i += 20) {
            there = x.feed(four(text, i), four(text, i + 4), four(text, i + 8), four(text, i + 12), four(text, i + 16));
        }
        return there;
    }

    private static int four(String text, int from) {
        int number = 0;
        for (int i = from; i < from + 4; i++) {
            number = number << 8 | (i < text.length() ? text.charAt(i) & 255 : 32);
        }
        return number;
    }

    /** What look() answers, or the name of what it throws. */
    static String look(LedArms x, int tape, int tick, int what) {
        try {
            return Integer.toString(x.look(tape, tick, what));
        } catch (RuntimeException e) {
            return e.getClass().getSimpleName();
        }
    }

    /** A tape's poses and spray, as "pose:spray pose:spray". */
    static String ticks(LedArms x, int tape) {
        StringBuilder s = new StringBuilder();
        for (int i = 0; i < x.about(tape, 1); i++) {
            s.append(i == 0 ? "" : " ").append(x.look(tape, i, 0)).append(':').append(x.look(tape, i, 1));
        }
        return s.toString();
    }

    /** A new tape of an arm with these poses, all of one spray; -9 if the hand can't lead it. */
    static int tape(LedArms x, int arm, int spray, int... poses) {
        int number = x.tape(arm);
        for (int pose : poses) {
            if (x.lead(number, pose, spray) < 0) {
                return -9;
            }
        }
        return number;
    }
}
