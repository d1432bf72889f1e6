import java.util.Random;

/** Random runs of at most 512 calls, held beside the plain reading of the document; all promises. */
public final class RandomRunsTest {
    private static final String[] WORDS = {
        "make", "then", "from", "to", "back", "slow", "dry", ";", "0", "1", "2", "3", "9", "10", "40", "99", "100",
        "007", "maker", "x", "#", "A", "\u00e9", "\n", " ", "99999999999", "00000000000001"
    };

    private final Random random;
    private final Due due;
    private final LedArms x = new LedArms();
    private final Plain y = new Plain();
    private final int wildness;
    private final int most;

    private RandomRunsTest(long seed, Due due) {
        random = new Random(seed);
        this.due = due;
        int[] wild = {0, 5, 30};
        wildness = wild[random.nextInt(wild.length)];
        most = 1 + random.nextInt(3);
    }

    public static void main(String[] args) {
        int runs = args.length > 0 ? Integer.parseInt(args[0]) : 400;
        long first = args.length > 1 ? Long.parseLong(args[1]) : 1;
        Due due = new Due("RandomRunsTest");
        for (long seed = first; seed < first + runs && !due.anyWrong(); seed++) {
            new RandomRunsTest(seed, due).run(seed);
        }
        due.end();
    }

    private int pick(int low, int high) {
        if (random.nextInt(100) < wildness) {
            int[] odd = {low - 1, high + 1, -1, 0, Integer.MIN_VALUE, Integer.MAX_VALUE, random.nextInt(), low, high};
            return odd[random.nextInt(odd.length)];
        }
        return low + random.nextInt(Math.max(1, high - low + 1));
    }

    private int anyTape() {
        return pick(0, Math.max(0, y.tapes.size() - 1));
    }

    private int anyArm() {
        return pick(0, Math.max(0, y.arms.size() - 1));
    }

    /** A pose of an arm, sometimes one that is not. */
    private int anyPose(int arm) {
        if (!y.arm(arm) || random.nextInt(100) < wildness) {
            return pick(0, 4095);
        }
        int[] p = new int[3];
        for (int i = 0; i < y.arms.get(arm).joints.size(); i++) {
            int[] j = y.arms.get(arm).joints.get(i);
            p[i] = j[1] + random.nextInt(j[2] - j[1] + 1);
        }
        return Plain.number(p);
    }

    /** A pose that the hand can lead to from a tape's end, mostly. */
    private int nextPose(int tape) {
        if (!y.tape(tape) || random.nextInt(100) < wildness) {
            return pick(0, 4095);
        }
        Plain.T t = y.tapes.get(tape);
        if (t.ticks.isEmpty()) {
            return anyPose(t.arm);
        }
        Plain.A a = y.arms.get(t.arm);
        int[] p = Plain.places(a, t.ticks.get(t.ticks.size() - 1)[0]).clone();
        for (int i = 0; i < a.joints.size(); i++) {
            int[] j = a.joints.get(i);
            int step = random.nextInt(3) == 0 ? 0 : random.nextInt(2 * j[3] + 1) - j[3];
            p[i] = Math.max(j[1], Math.min(j[2], p[i] + step));
        }
        return Plain.number(p);
    }

    private int drift() {
        return random.nextInt(3) == 0 ? 0 : pick(-2000, 2000) / (random.nextBoolean() ? 1 : 10);
    }

    private int offset() {
        return random.nextInt(3) == 0 ? 0 : pick(-20000, 20000) / (random.nextBoolean() ? 1 : 5);
    }

    private void run(long seed) {
        int calls = 0;
        int arms = 1 + random.nextInt(2);
        for (int a = 0; a < arms; a++) {
            int bx = random.nextInt(21);
            int by = random.nextInt(21);
            due.is(seed + " arm", x.arm(bx, by), y.newArm(bx, by));
            calls++;
            for (int j = 0; j < 1 + random.nextInt(most); j++) {
                call(seed, 3);
                calls++;
            }
        }
        int strokes = 1 + random.nextInt(4);
        for (int s = 0; s < strokes; s++) {
            call(seed, 5);
            calls++;
            for (int i = 0; i < random.nextInt(30); i++) {
                call(seed, 6);
                calls++;
            }
        }
        for (; calls < 512 && !due.anyWrong(); calls++) {
            call(seed, random.nextInt(34));
        }
    }

    private void call(long seed, int which) {
        int a = anyArm();
        int t = anyTape();
        int what = pick(0, 1);
        switch (which) {
            case 0:
                text(seed);
                break;
            case 1: {
                int n = pick(0, 20);
                due.is(seed + " make " + n, x.make(n), y.make(n));
                break;
            }
            case 2: {
                int bx = pick(0, 20);
                int by = pick(0, 20);
                due.is(seed + " arm", x.arm(bx, by), y.newArm(bx, by));
                break;
            }
            case 3: {
                int length = pick(1, 6);
                int low = random.nextBoolean() ? 0 : pick(0, 15);
                int high = random.nextBoolean() ? 15 : pick(Math.max(0, Math.min(low, 15)), 15);
                int speed = pick(1, 3);
                due.is(seed + " joint", x.joint(a, length, low, high, speed), y.joint(a, length, low, high, speed));
                break;
            }
            case 4: {
                int p = anyPose(a);
                int q = anyPose(a);
                int k = pick(0, 3);
                due.is(seed + " point", x.point(a, p, k, what), y.point(a, p, k, what));
                due.is(seed + " hop", x.hop(a, p, q), y.hop(a, p, q));
                break;
            }
            case 5:
                if (random.nextInt(4) == 0 || y.tapes.size() < 3) {
                    due.is(seed + " tape", x.tape(a), y.newTape(a));
                }
                break;
            case 6:
            case 7:
            case 8:
            case 9: {
                int p = nextPose(t);
                int s = pick(0, 9);
                due.is(seed + " lead", x.lead(t, p, s), y.lead(t, p, s));
                break;
            }
            case 10: {
                int tick = pick(0, y.tape(t) ? y.tapes.get(t).ticks.size() - 1 : 5);
                int w = pick(0, 3);
                due.same(seed + " look", Use.look(x, t, tick, w), y.look(t, tick, w));
                break;
            }
            case 11:
                due.is(seed + " about", x.about(t, what), y.about(t, what));
                break;
            case 12:
            case 13: {
                int d = drift();
                int o = offset();
                due.is(seed + " play", x.play(t, d, o), y.play(t, d, o));
                break;
            }
            case 14: {
                int n = pick(0, 30);
                due.is(seed + " nozzle", x.nozzle(n), y.nozzle(n));
                break;
            }
            case 15: {
                int i = pick(0, 15);
                int j = pick(0, 15);
                int u = pick(0, 15);
                int v = pick(0, 15);
                int w = pick(0, 3);
                due.is(seed + " thick", x.thick(i, j, u, v, w), y.thick(i, j, u, v, w));
                due.is(seed + " paint", x.paint(i, j), y.paint(i, j));
                break;
            }
            case 16:
                if (random.nextInt(4) == 0) {
                    due.is(seed + " clean", x.clean(), y.clean());
                }
                break;
            default:
                search(seed, which, a, t);
        }
    }

    private void search(long seed, int which, int a, int t) {
        int what = pick(0, 1);
        switch (which) {
            case 17:
            case 18: {
                if (y.tapes.size() > 5 && random.nextInt(4) > 0 || isDear(a, t)) {
                    break;
                }
                int d = random.nextInt(3) > 0 ? 0 : drift() / 4;
                int e = random.nextInt(4) == 0 ? 0 : pick(0, 2000);
                due.is(seed + " follow " + t + " " + a + " " + d + " " + e, x.follow(t, a, d, e), y.follow(t, a, d, e));
                break;
            }
            case 19:
                due.is(seed + " stop", x.stop(), y.stop);
                due.is(seed + " way", x.way(), y.way);
                break;
            case 20:
            case 21: {
                int b = anyTape();
                due.is(seed + " meet " + t + " " + b, x.meet(t, b), y.meet(t, b));
                break;
            }
            case 22: {
                int k = pick(0, 40);
                due.is(seed + " met " + k, x.met(k), y.met(k));
                break;
            }
            case 23: {
                int bits = pick(1, (1 << y.tapes.size()) - 1);
                int e = pick(0, 2000);
                if (isDear(0, t) || isDear(1, t)) {
                    e = Math.min(e, 200);
                }
                due.is(seed + " share " + bits + " " + e, x.share(bits, e, what), y.share(bits, e, what));
                break;
            }
            case 24:
            case 25: {
                int j = pick(0, 2);
                int kind = pick(0, 1);
                int size = pick(0, 3);
                int since = random.nextBoolean() ? pick(0, 39) : pick(0, 6);
                due.is(seed + " wear", x.wear(a, j, kind, size, since), y.wear(a, j, kind, size, since));
                break;
            }
            case 26:
            case 27: {
                int d = drift();
                int o = offset();
                int w = pick(0, 5);
                due.is(seed + " suspects " + w, x.suspects(t, d, o, w), y.suspects(t, d, o, w));
                break;
            }
            case 28:
            case 29: {
                int d = drift();
                int o = offset();
                int bar = random.nextBoolean() ? pick(1, 99) : pick(1, 12);
                due.is(seed + " anew", x.anew(t, d, o, bar, what), y.anew(t, d, o, bar, what));
                break;
            }
            case 30: {
                int b = anyTape();
                due.is(seed + " apart", x.apart(t, b, what), y.apart(t, b, what));
                break;
            }
            case 31: {
                int w = pick(0, 5);
                due.is(seed + " count", x.count(w), y.count(w));
                break;
            }
            case 32: {
                int w = pick(0, 1);
                due.is(seed + " fault", x.fault(w), w == 0 ? y.fault : w == 1 ? y.place : -1);
                break;
            }
            default:
                text(seed);
        }
    }

    /** Whether the plain way of following would be too slow. */
    private boolean isDear(int arm, int tape) {
        if (!y.arm(arm) || !y.tape(tape)) {
            return false;
        }
        int poses = 1;
        int length = 0;
        for (int[] j : y.arms.get(arm).joints) {
            poses *= j[2] - j[1] + 1;
            length += j[0];
        }
        return poses > 600 && length < 7;
    }

    private void text(long seed) {
        StringBuilder s = new StringBuilder();
        int lines = random.nextInt(8) == 0 ? 3 : 1;
        for (int i = 0; i < lines; i++) {
            line(s);
        }
        int hits = random.nextInt(3) == 0 ? 1 + random.nextInt(2) : 0;
        for (int i = 0; i < hits; i++) {
            int at = random.nextInt(s.length() + 1);
            String word = WORDS[random.nextInt(WORDS.length)];
            int over = random.nextInt(3);
            s.replace(at, Math.min(s.length(), at + over), word);
        }
        String text = s.toString();
        int there = 0;
        for (int i = 0; i < text.length(); i += 20) {
            int[] f = new int[5];
            for (int k = 0; k < 20; k++) {
                int c = i + k < text.length() ? text.charAt(i + k) : 32;
                f[k / 4] = f[k / 4] << 8 | c & 255;
            }
            there = y.feed(f);
            due.is(seed + " feed", x.feed(f[0], f[1], f[2], f[3], f[4]), there);
        }
        if (random.nextInt(10) == 0) {
            return;
        }
        int n = random.nextInt(12) == 0 ? pick(0, text.length()) : Math.min(400, y.bytes.size());
        due.is(seed + " make <" + text + ">", x.make(n), y.make(n));
        due.is(seed + " fault <" + text + ">", x.fault(0), y.fault);
        due.is(seed + " place <" + text + ">", x.fault(1), y.place);
        int last = y.tapes.size() - 1;
        for (int i = 0; last >= 0 && i < y.tapes.get(last).ticks.size(); i++) {
            due.same(seed + " look", Use.look(x, last, i, 0), y.look(last, i, 0));
            due.same(seed + " look", Use.look(x, last, i, 1), y.look(last, i, 1));
        }
    }

    private void line(StringBuilder s) {
        s.append("make");
        int parts = random.nextInt(10) == 0 ? 1 + random.nextInt(9) : 1 + random.nextInt(3);
        for (int i = 0; i < parts; i++) {
            int t = random.nextInt(Math.max(1, y.tapes.size()) + (random.nextInt(8) == 0 ? 2 : 0));
            s.append(i == 0 ? " " : " then ").append(t);
            int ticks = y.tape(t) ? y.tapes.get(t).ticks.size() : 0;
            if (random.nextInt(3) > 0) {
                int from = random.nextInt(ticks + 1);
                int to = Math.min(from + random.nextInt(4), Math.max(0, ticks - 1));
                s.append(" from ").append(from).append(" to ").append(to);
            }
            while (random.nextInt(3) == 0) {
                int k = random.nextInt(3);
                s.append(k == 0 ? " back" : k == 1 ? " dry" : " slow " + (1 + random.nextInt(3)));
            }
        }
        s.append(" ;");
    }
}
