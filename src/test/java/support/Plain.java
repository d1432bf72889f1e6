import java.util.ArrayList;
import java.util.Arrays;
import java.util.List;

/**
 * The document once more, in the slowest and plainest way: every order, every cut, every row of poses is tried.
 * It shares no line with LedArms and is held beside it in random runs.
 */
final class Plain {
    static final int[] COS = {1000, 924, 707, 383, 0, -383, -707, -924, -1000, -924, -707, -383, 0, 383, 707, 924};

    static final class A {
        int x;
        int y;
        List<int[]> joints = new ArrayList<>();
        int[] wear;
    }

    static final class T {
        int arm;
        List<int[]> ticks = new ArrayList<>();

        T(int arm) {
            this.arm = arm;
        }
    }

    static final class Fault extends Exception {
        final int number;
        final int place;

        Fault(int number, int place) {
            this.number = number;
            this.place = place;
        }
    }

    List<A> arms = new ArrayList<>();
    List<T> tapes = new ArrayList<>();
    List<Integer> bytes = new ArrayList<>();
    int[][] face = new int[16][16];
    int nozzle = 10;
    int fault = 0;
    int place = -1;
    int stop = -1;
    int way = -1;
    List<Integer> met = new ArrayList<>();

    boolean arm(int n) {
        return n >= 0 && n < arms.size();
    }

    boolean tape(int n) {
        return n >= 0 && n < tapes.size();
    }

    static boolean in(int v, int a, int b) {
        return a <= v && v <= b;
    }

    int feed(int... five) {
        if (bytes.size() + 20 > 400) {
            return -1;
        }
        for (int n : five) {
            bytes.add(n >>> 24);
            bytes.add(n >>> 16 & 255);
            bytes.add(n >>> 8 & 255);
            bytes.add(n & 255);
        }
        return bytes.size();
    }

    // ---- arms

    int newArm(int x, int y) {
        if (!in(x, 0, 20) || !in(y, 0, 20) || arms.size() == 2) {
            return -1;
        }
        A a = new A();
        a.x = x;
        a.y = y;
        arms.add(a);
        return arms.size() - 1;
    }

    int joint(int arm, int length, int low, int high, int speed) {
        if (!arm(arm) || arms.get(arm).joints.size() == 3) {
            return -1;
        }
        for (T t : tapes) {
            if (t.arm == arm) {
                return -1;
            }
        }
        if (!in(length, 1, 6) || !in(low, 0, 15) || !in(high, 0, 15) || low > high || !in(speed, 1, 3)) {
            return -1;
        }
        arms.get(arm).joints.add(new int[] {length, low, high, speed});
        return arms.get(arm).joints.size() - 1;
    }

    /** The places of a pose, or null. */
    static int[] places(A a, int pose) {
        int[] p = {pose % 16, pose / 16 % 16, pose / 256};
        if (pose < 0 || pose > 4095) {
            return null;
        }
        for (int i = 0; i < 3; i++) {
            if (i < a.joints.size() ? !in(p[i], a.joints.get(i)[1], a.joints.get(i)[2]) : p[i] != 0) {
                return null;
            }
        }
        return p;
    }

    static int number(int[] p) {
        return p[0] + 16 * p[1] + 256 * p[2];
    }

    static int[][] points(A a, int[] p) {
        int n = a.joints.size();
        int[][] r = new int[n + 1][];
        r[0] = new int[] {1000 * a.x, 1000 * a.y};
        int d = 0;
        for (int k = 0; k < n; k++) {
            d = (d + p[k]) % 16;
            int len = a.joints.get(k)[0];
            r[k + 1] = new int[] {r[k][0] + len * COS[d], r[k][1] + len * COS[(d + 12) % 16]};
        }
        return r;
    }

    static int[] tip(A a, int[] p) {
        int[][] all = points(a, p);
        return all[all.length - 1];
    }

    int[] tip(T t, int tick) {
        A a = arms.get(t.arm);
        return tip(a, places(a, t.ticks.get(tick)[0]));
    }

    int point(int arm, int pose, int k, int what) {
        if (!arm(arm) || places(arms.get(arm), pose) == null || !in(k, 0, arms.get(arm).joints.size()) || !in(what, 0, 1)) {
            return Integer.MIN_VALUE;
        }
        return points(arms.get(arm), places(arms.get(arm), pose))[k][what];
    }

    static int hop(A a, int[] p, int[] q) {
        int most = 0;
        for (int i = 0; i < a.joints.size(); i++) {
            int far = Math.abs(p[i] - q[i]);
            int ticks = 0;
            while (ticks * a.joints.get(i)[3] < far) {
                ticks++;
            }
            most = Math.max(most, ticks);
        }
        return most;
    }

    int hop(int arm, int a, int b) {
        if (!arm(arm) || places(arms.get(arm), a) == null || places(arms.get(arm), b) == null) {
            return -1;
        }
        return hop(arms.get(arm), places(arms.get(arm), a), places(arms.get(arm), b));
    }

    // ---- tapes

    int newTape(int arm) {
        if (!arm(arm) || arms.get(arm).joints.isEmpty() || tapes.size() == 10) {
            return -1;
        }
        tapes.add(new T(arm));
        return tapes.size() - 1;
    }

    int lead(int tape, int pose, int spray) {
        if (!tape(tape) || !in(spray, 0, 9)) {
            return -1;
        }
        T t = tapes.get(tape);
        A a = arms.get(t.arm);
        int n = t.ticks.size();
        if (places(a, pose) == null || n == 40) {
            return -1;
        }
        if (n > 0 && hop(t.arm, t.ticks.get(n - 1)[0], pose) > 1) {
            return -1;
        }
        t.ticks.add(new int[] {pose, spray});
        return n + 1;
    }

    String look(int tape, int tick, int what) {
        if (!tape(tape) || !in(tick, 0, tapes.get(tape).ticks.size() - 1)) {
            return "IndexOutOfBoundsException";
        }
        if (!in(what, 0, 3)) {
            return "NoSuchElementException";
        }
        T t = tapes.get(tape);
        return "" + (what < 2 ? t.ticks.get(tick)[what] : tip(t, tick)[what - 2]);
    }

    int about(int tape, int what) {
        if (!tape(tape) || !in(what, 0, 1)) {
            return -1;
        }
        return what == 0 ? tapes.get(tape).arm : tapes.get(tape).ticks.size();
    }

    int apart(int a, int b, int what) {
        if (!tape(a) || !tape(b) || !in(what, 0, 1)) {
            return -1;
        }
        int n = Math.min(tapes.get(a).ticks.size(), tapes.get(b).ticks.size());
        int best = -1;
        int at = -1;
        for (int i = n - 1; i >= 0; i--) {
            int[] p = tip(tapes.get(a), i);
            int[] q = tip(tapes.get(b), i);
            int far = Math.max(Math.abs(p[0] - q[0]), Math.abs(p[1] - q[1]));
            if (far >= best) {
                best = far;
                at = i;
            }
        }
        return what == 0 ? best : at;
    }

    // ---- texts

    private String source;
    private int at;
    private int tokenAt;

    /** The next token as a text; "" at the end, "?" for one that is none. */
    private String token() {
        while (at < source.length() && (source.charAt(at) == 32 || source.charAt(at) == 10)) {
            at++;
        }
        tokenAt = at;
        if (at == source.length()) {
            return "";
        }
        int from = at;
        char c = source.charAt(at++);
        if (c >= 'a' && c <= 'z') {
            while (at < source.length() && source.charAt(at) >= 'a' && source.charAt(at) <= 'z') {
                at++;
            }
        } else if (c >= '0' && c <= '9') {
            while (at < source.length() && source.charAt(at) >= '0' && source.charAt(at) <= '9') {
                at++;
            }
        } else if (c != ';') {
            return "?";
        }
        return source.substring(from, at);
    }

    private String peek() {
        int was = at;
        String s = token();
        at = was;
        return s;
    }

    private int n(int low, int high) throws Fault {
        String s = token();
        if (!s.matches("[0-9]+")) {
            throw new Fault(1, tokenAt);
        }
        java.math.BigInteger v = new java.math.BigInteger(s);
        if (v.compareTo(java.math.BigInteger.valueOf(low)) < 0 || v.compareTo(java.math.BigInteger.valueOf(high)) > 0) {
            throw new Fault(2, tokenAt);
        }
        return v.intValue();
    }

    int make(int n) {
        if (n < 0 || n > bytes.size()) {
            return -2;
        }
        StringBuilder s = new StringBuilder();
        for (int i = 0; i < n; i++) {
            s.append((char) (int) bytes.get(i));
        }
        bytes.clear();
        source = s.toString();
        at = 0;
        fault = 0;
        place = -1;
        List<T> all = new ArrayList<>(tapes);
        try {
            while (!peek().isEmpty()) {
                all.add(line(all));
            }
        } catch (Fault f) {
            fault = f.number;
            place = f.place;
            return -1;
        }
        int made = all.size() - tapes.size();
        tapes = all;
        return made;
    }

    private T line(List<T> all) throws Fault {
        if (!token().equals("make")) {
            throw new Fault(1, tokenAt);
        }
        T made = null;
        boolean over = false;
        int parts = 0;
        while (true) {
            int number = n(0, 99);
            if (number >= all.size()) {
                throw new Fault(3, tokenAt);
            }
            T from = all.get(number);
            if (made == null) {
                made = new T(from.arm);
            }
            if (made.arm != from.arm) {
                throw new Fault(4, tokenAt);
            }
            List<int[]> part = cut(from.ticks);
            over |= changes(part);
            if (!over) {
                join(made, part);
                over = made.ticks.size() > 40;
            }
            parts++;
            String next = token();
            if (next.equals(";")) {
                if (over || all.size() == 10) {
                    throw new Fault(5, tokenAt);
                }
                return made;
            }
            if (!next.equals("then")) {
                throw new Fault(1, tokenAt);
            }
            if (parts == 8) {
                throw new Fault(2, tokenAt);
            }
        }
    }

    private List<int[]> cut(List<int[]> ticks) throws Fault {
        if (!peek().equals("from")) {
            return new ArrayList<>(ticks);
        }
        token();
        int from = n(0, 99);
        if (from >= ticks.size()) {
            throw new Fault(3, tokenAt);
        }
        if (!token().equals("to")) {
            throw new Fault(1, tokenAt);
        }
        int to = n(0, 99);
        if (to >= ticks.size() || to < from) {
            throw new Fault(3, tokenAt);
        }
        return new ArrayList<>(ticks.subList(from, to + 1));
    }

    /** True if there are too many ticks to go on with. */
    private boolean changes(List<int[]> part) throws Fault {
        boolean over = false;
        while (true) {
            String s = peek();
            if (s.equals("back")) {
                token();
                java.util.Collections.reverse(part);
            } else if (s.equals("dry")) {
                token();
                part.replaceAll(t -> new int[] {t[0], 0});
            } else if (s.equals("slow")) {
                token();
                int times = n(1, 9);
                if (!over) {
                    List<int[]> old = new ArrayList<>(part);
                    part.clear();
                    for (int[] t : old) {
                        for (int i = 0; i < times; i++) {
                            part.add(t);
                        }
                    }
                    over = part.size() > 40;
                }
            } else {
                return over;
            }
        }
    }

    private void join(T made, List<int[]> part) {
        if (part.isEmpty()) {
            return;
        }
        if (!made.ticks.isEmpty()) {
            A a = arms.get(made.arm);
            int[] p = places(a, made.ticks.get(made.ticks.size() - 1)[0]);
            int[] q = places(a, part.get(0)[0]);
            int h = hop(a, p, q);
            for (int i = 1; i < h; i++) {
                int[] r = new int[3];
                for (int j = 0; j < 3; j++) {
                    int far = Math.abs(q[j] - p[j]) * i / h;
                    r[j] = q[j] >= p[j] ? p[j] + far : p[j] - far;
                }
                made.ticks.add(new int[] {number(r), 0});
            }
        }
        made.ticks.addAll(part);
    }

    // ---- paint

    boolean belt(int tape, int drift, int offset) {
        return tape(tape) && in(drift, -2000, 2000) && in(offset, -20000, 20000);
    }

    static int floor(int a, int b) {
        return (int) Math.floor((double) a / b);
    }

    /** The pose at a tick with a wear (joint, kind, size, since), or as told with null. */
    int[] worn(T t, int tick, int[] wear) {
        A a = arms.get(t.arm);
        int[] p = places(a, t.ticks.get(tick)[0]).clone();
        if (wear == null || wear[2] == 0 || tick < wear[3]) {
            return p;
        }
        int j = wear[0];
        if (wear[1] == 0) {
            p[j] = places(a, t.ticks.get(Math.max(0, tick - wear[2]))[0])[j];
            return p;
        }
        int is = 0;
        for (int i = wear[3]; i <= tick; i++) {
            int told = places(a, t.ticks.get(i)[0])[j];
            if (i == wear[3]) {
                is = told;
            } else if (is < told - wear[2]) {
                is = told - wear[2];
            } else if (is > told) {
                is = told;
            }
        }
        p[j] = is;
        return p;
    }

    int[][] laid(T t, int drift, int offset, int[] wear, int from, int to) {
        int[][] f = new int[16][16];
        A a = arms.get(t.arm);
        for (int i = from; i <= to; i++) {
            int[] tip = tip(a, worn(t, i, wear));
            int x = floor(tip[0] - offset - drift * i, 1000);
            int y = floor(tip[1], 1000);
            if (in(x, 0, 15) && in(y, 0, 15)) {
                f[x][y] += t.ticks.get(i)[1] * nozzle / 10;
            }
        }
        return f;
    }

    int play(int tape, int drift, int offset) {
        if (!belt(tape, drift, offset)) {
            return -1;
        }
        T t = tapes.get(tape);
        int[][] f = laid(t, drift, offset, arms.get(t.arm).wear, 0, t.ticks.size() - 1);
        int sum = 0;
        for (int x = 0; x < 16; x++) {
            for (int y = 0; y < 16; y++) {
                face[x][y] += f[x][y];
                sum += f[x][y];
            }
        }
        return sum;
    }

    boolean nozzle(int n) {
        if (in(n, 0, 30)) {
            nozzle = n;
            return true;
        }
        return false;
    }

    int thick(int x, int y, int u, int v, int what) {
        if (x < 0 || y < 0 || u < x || v < y || u > 15 || v > 15 || !in(what, 0, 3)) {
            return -1;
        }
        List<Integer> all = new ArrayList<>();
        for (int i = x; i <= u; i++) {
            for (int j = y; j <= v; j++) {
                all.add(face[i][j]);
            }
        }
        java.util.Collections.sort(all);
        int least = all.get(0);
        switch (what) {
            case 0:
                return least;
            case 1:
                return all.get(all.size() - 1);
            case 2:
                return all.stream().mapToInt(i -> i).sum();
            default:
                return (int) all.stream().filter(i -> i == least).count();
        }
    }

    int paint(int x, int y) {
        return in(x, 0, 15) && in(y, 0, 15) ? face[x][y] : -1;
    }

    int clean() {
        int n = count(4);
        face = new int[16][16];
        return n;
    }

    // ---- following

    /** The row of poses, first by way, then by numbers; or null, and stoppedAt is told. */
    private int stoppedAt;
    private int rowWay;

    int[] row(T t, A on, int drift, int error) {
        List<int[]> paths = new ArrayList<>();
        List<Integer> ways = new ArrayList<>();
        for (int i = 0; i < t.ticks.size(); i++) {
            int[] want = tip(t, i);
            List<int[]> next = new ArrayList<>();
            List<Integer> nextWays = new ArrayList<>();
            for (int pose = 0; pose < 4096; pose++) {
                int[] p = places(on, pose);
                if (p == null) {
                    continue;
                }
                int[] tip = tip(on, p);
                if (Math.abs(tip[0] - want[0] - drift * i) > error || Math.abs(tip[1] - want[1]) > error) {
                    continue;
                }
                int[] best = i == 0 ? new int[0] : null;
                int bestWay = 0;
                for (int k = 0; k < paths.size(); k++) {
                    int[] q = places(on, paths.get(k)[i - 1]);
                    if (hop(on, p, q) > 1) {
                        continue;
                    }
                    int w = ways.get(k);
                    for (int j = 0; j < 3; j++) {
                        w += Math.abs(p[j] - q[j]);
                    }
                    if (best == null || w < bestWay || (w == bestWay && Arrays.compare(paths.get(k), best) < 0)) {
                        best = paths.get(k);
                        bestWay = w;
                    }
                }
                if (best != null) {
                    int[] longer = Arrays.copyOf(best, i + 1);
                    longer[i] = pose;
                    next.add(longer);
                    nextWays.add(bestWay);
                }
            }
            if (next.isEmpty()) {
                stoppedAt = i;
                return null;
            }
            paths = next;
            ways = nextWays;
        }
        int best = 0;
        for (int k = 1; k < paths.size(); k++) {
            int c = Integer.compare(ways.get(k), ways.get(best));
            if (c < 0 || (c == 0 && Arrays.compare(paths.get(k), paths.get(best)) < 0)) {
                best = k;
            }
        }
        rowWay = ways.get(best);
        return paths.get(best);
    }

    int follow(int tape, int arm, int drift, int error) {
        if (!tape(tape) || !arm(arm) || !in(drift, -2000, 2000) || !in(error, 0, 2000) || tapes.size() == 10) {
            return -1;
        }
        T t = tapes.get(tape);
        A on = arms.get(arm);
        if (t.ticks.isEmpty() || on.joints.isEmpty()) {
            return -1;
        }
        int[] row = row(t, on, drift, error);
        if (row == null) {
            stop = stoppedAt;
            return -2;
        }
        stop = -1;
        way = rowWay;
        T made = new T(arm);
        for (int i = 0; i < row.length; i++) {
            made.ticks.add(new int[] {row[i], t.ticks.get(i)[1]});
        }
        tapes.add(made);
        return tapes.size() - 1;
    }

    // ---- meeting

    static List<String> body(A a, int[] p) {
        int[][] pts = points(a, p);
        List<String> cells = new ArrayList<>();
        for (int k = 1; k < pts.length; k++) {
            cells.add(floor(pts[k][0], 1000) + "," + floor(pts[k][1], 1000));
            int x = floor(pts[k][0] + pts[k - 1][0], 2);
            int y = floor(pts[k][1] + pts[k - 1][1], 2);
            cells.add(floor(x, 1000) + "," + floor(y, 1000));
        }
        return cells;
    }

    int meet(int a, int b) {
        if (!tape(a) || !tape(b) || tapes.get(a).arm != 0 || tapes.get(b).arm != 1) {
            return -1;
        }
        T s = tapes.get(a);
        T t = tapes.get(b);
        int m = s.ticks.size();
        int n = t.ticks.size();
        if (m == 0 || n == 0) {
            return -1;
        }
        String[][] ways = new String[m][n];
        for (int i = 0; i < m; i++) {
            for (int j = 0; j < n; j++) {
                List<String> one = body(arms.get(0), places(arms.get(0), s.ticks.get(i)[0]));
                List<String> two = body(arms.get(1), places(arms.get(1), t.ticks.get(j)[0]));
                one.retainAll(two);
                if (!one.isEmpty()) {
                    continue;
                }
                String best = i == 0 && j == 0 ? "" : null;
                best = shorter(best, i > 0 && j > 0 ? ways[i - 1][j - 1] : null, "0");
                best = shorter(best, i > 0 ? ways[i - 1][j] : null, "1");
                best = shorter(best, j > 0 ? ways[i][j - 1] : null, "2");
                ways[i][j] = best;
            }
        }
        String found = ways[m - 1][n - 1];
        if (found == null) {
            return -2;
        }
        met.clear();
        int i = 0;
        int j = 0;
        met.add(0);
        for (char c : found.toCharArray()) {
            i += c == '2' ? 0 : 1;
            j += c == '1' ? 0 : 1;
            met.add(i + 64 * j);
        }
        return found.length();
    }

    private static String shorter(String best, String from, String step) {
        if (from == null) {
            return best;
        }
        String s = from + step;
        boolean better = best == null || s.length() < best.length()
            || (s.length() == best.length() && s.compareTo(best) < 0);
        return better ? s : best;
    }

    int met(int k) {
        return in(k, 0, met.size() - 1) ? met.get(k) : -1;
    }

    // ---- sharing

    int share(int bits, int error, int what) {
        if (arms.size() < 2 || arms.get(0).joints.isEmpty() || arms.get(1).joints.isEmpty()) {
            return -1;
        }
        if (bits <= 0 || bits >= 1 << tapes.size() || Integer.bitCount(bits) > 5 || !in(error, 0, 2000) || !in(what, 0, 1)) {
            return -1;
        }
        int[][][] ends = new int[2][10][];
        for (int i = 0; i < tapes.size(); i++) {
            if ((bits >> i & 1) == 0) {
                continue;
            }
            T t = tapes.get(i);
            if (t.ticks.isEmpty()) {
                return -1;
            }
            int n = t.ticks.size();
            ends[t.arm][i] = new int[] {t.ticks.get(0)[0], t.ticks.get(n - 1)[0]};
            int[] row = row(t, arms.get(1 - t.arm), 0, error);
            ends[1 - t.arm][i] = row == null ? null : new int[] {row[0], row[n - 1]};
        }
        int best = Integer.MAX_VALUE;
        int bestBits = 0;
        for (int ones = 0; ones < 1 << tapes.size(); ones++) {
            if ((ones & ~bits) != 0) {
                continue;
            }
            long time = Math.max(time(0, bits & ~ones, -1, ends), time(1, ones, -1, ends));
            if (time < best) {
                best = (int) time;
                bestBits = ones;
            }
        }
        return what == 0 ? best : bestBits;
    }

    /** The least time of an arm for these tapes, after one of them. */
    private long time(int arm, int bits, int after, int[][][] ends) {
        if (bits == 0) {
            return 0;
        }
        long best = Long.MAX_VALUE / 4;
        A a = arms.get(arm);
        for (int i = 0; i < 10; i++) {
            if ((bits >> i & 1) == 0 || ends[arm][i] == null) {
                continue;
            }
            long time = tapes.get(i).ticks.size();
            if (after >= 0) {
                time += Math.max(0, hop(a, places(a, ends[arm][after][1]), places(a, ends[arm][i][0])) - 1);
            }
            best = Math.min(best, time + time(arm, bits & ~(1 << i), i, ends));
        }
        return best;
    }

    // ---- wear

    boolean wear(int arm, int joint, int kind, int size, int since) {
        if (!arm(arm) || !in(joint, 0, arms.get(arm).joints.size() - 1) || !in(kind, 0, 1) || !in(size, 0, 3) || !in(since, 0, 39)) {
            return false;
        }
        arms.get(arm).wear = new int[] {joint, kind, size, since};
        return true;
    }

    int suspects(int tape, int drift, int offset, int what) {
        if (!belt(tape, drift, offset) || !in(what, 0, 5)) {
            return -2;
        }
        T t = tapes.get(tape);
        A a = arms.get(t.arm);
        int n = t.ticks.size();
        int[][] is = laid(t, drift, offset, a.wear, 0, n - 1);
        List<int[]> found = new ArrayList<>();
        boolean none = Arrays.deepEquals(is, laid(t, drift, offset, null, 0, n - 1));
        int bits = 0;
        for (int j = 0; j < a.joints.size(); j++) {
            for (int kind = 0; kind < 2; kind++) {
                for (int size = 1; size <= 3; size++) {
                    for (int since = 0; since < n; since++) {
                        int[] w = {j, kind, size, since};
                        if (Arrays.deepEquals(is, laid(t, drift, offset, w, 0, n - 1))) {
                            found.add(w);
                            bits |= 1 << j;
                        }
                    }
                }
            }
        }
        boolean sure = !none && Integer.bitCount(bits) == 1;
        switch (what) {
            case 0:
                return found.size() + (none ? 1 : 0);
            case 1:
                return bits;
            case 2:
                return none ? 1 : 0;
            case 3:
                return sure ? found.get(0)[0] : -1;
            case 4:
                return sure ? found.stream().mapToInt(w -> w[3]).min().getAsInt() : -1;
            default:
                return sure ? found.stream().mapToInt(w -> w[3]).max().getAsInt() : -1;
        }
    }

    int anew(int tape, int drift, int offset, int bar, int what) {
        if (!belt(tape, drift, offset) || !in(bar, 1, 99) || !in(what, 0, 1)) {
            return -1;
        }
        T t = tapes.get(tape);
        int n = t.ticks.size();
        int[][] whole = laid(t, drift, offset, null, 0, n - 1);
        boolean[][] missing = new boolean[16][16];
        boolean any = false;
        for (int x = 0; x < 16; x++) {
            for (int y = 0; y < 16; y++) {
                missing[x][y] = face[x][y] < bar && whole[x][y] >= bar;
                any |= missing[x][y];
            }
        }
        if (!any) {
            return -2;
        }
        for (int length = 1; length <= n; length++) {
            for (int from = 0; from + length <= n; from++) {
                int[][] f = laid(t, drift, offset, null, from, from + length - 1);
                boolean all = true;
                for (int x = 0; x < 16; x++) {
                    for (int y = 0; y < 16; y++) {
                        all &= !missing[x][y] || face[x][y] + f[x][y] >= bar;
                    }
                }
                if (all) {
                    return what == 0 ? from : from + length - 1;
                }
            }
        }
        throw new IllegalStateException("the whole tape is a cut");
    }

    int count(int what) {
        int sum = 0;
        int some = 0;
        int ticks = 0;
        for (int[] column : face) {
            for (int p : column) {
                sum += p;
                some += p > 0 ? 1 : 0;
            }
        }
        for (T t : tapes) {
            ticks += t.ticks.size();
        }
        int[] all = {arms.size(), tapes.size(), ticks, sum, some, nozzle};
        return in(what, 0, 5) ? all[what] : -1;
    }
}
