import java.util.NoSuchElementException;

/** Arms that were led by the hand, their tapes, and the paint that these lay on a part's face. */
public final class LedArms {
    public static final int NONE = -1;

    private static final int CANNOT = -2;
    private static final int MOST_ARMS = 2;
    private static final int MOST_JOINTS = 3;
    private static final int MOST_TAPES = 10;
    private static final int MOST_TICKS = 40;
    private static final int MOST_SHARED = 5;
    private static final int PLACES = 16;
    private static final int POSES = 4096;
    private static final int SIDE = 16;
    private static final int SPOTS = 256;
    private static final int THOUSAND = 1000;
    private static final int QUARTER_BACK = 12;
    private static final int LAG = 0;
    private static final int SLACK = 1;
    private static final int MOST_WEAR = 3;
    /** Stands for "no way leads there"; far above every sum of a run, far below overflow. */
    private static final int FAR = 1000000;

    private static final int[] X = {
        1000, 924, 707, 383, 0, -383, -707, -924, -1000, -924, -707, -383, 0, 383, 707, 924
    };

    private final Shop shop;
    private final Text text;
    private final Maker maker;
    private final Face face;
    private final Strokes strokes;
    private final Doubt doubt;
    private final Meeting meeting;
    private final Sharing sharing;
    /** Made at the first call that follows: its rows are by far the longest of all. */
    private Follower follower;
    private int of10;
    private int latestStop;
    private int latestWay;

    public LedArms() {
        maker = new Maker();
        shop = maker.shop;
        text = maker.text;
        face = new Face();
        strokes = new Strokes();
        doubt = new Doubt();
        meeting = new Meeting();
        sharing = new Sharing();
        of10 = 10;
        latestStop = NONE;
        latestWay = NONE;
    }

    public int feed(int a, int b, int c, int d, int e) {
        if (!text.hasRoom()) {
            return NONE;
        }
        text.addFour(a);
        text.addFour(b);
        text.addFour(c);
        text.addFour(d);
        text.addFour(e);
        return text.size;
    }

    public int make(int n) {
        if (n < 0 || n > text.size) {
            return CANNOT;
        }
        return maker.readText(n);
    }

    public int fault(int what) {
        if (what == 0) {
            return maker.found;
        }
        return what == 1 ? maker.foundAt : NONE;
    }

    public int arm(int x, int y) {
        if (!within(x, 0, 20) || !within(y, 0, 20)) {
            return NONE;
        }
        return shop.addArm(x, y);
    }

    public int joint(int arm, int length, int low, int high, int speed) {
        Arm a = shop.armAt(arm);
        if (a == null || shop.hasTapes(arm) || !within(length, 1, 6) || !within(speed, 1, 3)) {
            return NONE;
        }
        if (!within(low, 0, PLACES - 1) || !within(high, low, PLACES - 1)) {
            return NONE;
        }
        return a.addJoint(length, low, high, speed);
    }

    public int point(int arm, int pose, int k, int what) {
        Arm a = shop.armAt(arm);
        if (a == null || !a.hasPose(pose) || !within(k, 0, a.joints) || !within(what, 0, 1)) {
            return Integer.MIN_VALUE;
        }
        return what == 0 ? a.pointX(pose, k) : a.pointY(pose, k);
    }

    public int hop(int arm, int a, int b) {
        Arm of = shop.armAt(arm);
        if (of == null || !of.hasPose(a) || !of.hasPose(b)) {
            return NONE;
        }
        return of.hopBetween(a, b);
    }

    public int tape(int arm) {
        Arm a = shop.armAt(arm);
        if (a == null || a.joints == 0) {
            return NONE;
        }
        return shop.addTape(arm);
    }

    public int lead(int tape, int pose, int spray) {
        Tape t = shop.tapeAt(tape);
        Arm a = shop.armOf(t);
        if (t == null || a == null || !a.hasPose(pose) || !within(spray, 0, 9)) {
            return NONE;
        }
        if (t.ticks > 0 && a.hopBetween(t.lastPose(), pose) > 1) {
            return NONE;
        }
        return t.addTick(pose, spray) ? t.ticks : NONE;
    }

    public int look(int tape, int tick, int what) throws IndexOutOfBoundsException, NoSuchElementException {
        Tape t = shop.tapeAt(tape);
        Arm a = shop.armOf(t);
        if (t == null || a == null || !within(tick, 0, t.ticks - 1)) {
            throw new IndexOutOfBoundsException("no such tape or tick");
        }
        if (!within(what, 0, 3)) {
            throw new NoSuchElementException("no such what");
        }
        if (what == 1) {
            return t.sprayAt(tick);
        }
        int pose = t.poseAt(tick);
        if (what == 0) {
            return pose;
        }
        return what == 2 ? a.tipX(pose) : a.tipY(pose);
    }

    public int about(int tape, int what) {
        Tape t = shop.tapeAt(tape);
        if (t == null || !within(what, 0, 1)) {
            return NONE;
        }
        return what == 0 ? t.owner : t.ticks;
    }

    public int play(int tape, int drift, int offset) {
        Arm a = aimed(tape, drift, offset);
        if (a == null) {
            return NONE;
        }
        strokes.draw(a.wornJoint, a.wornKind, a.wornSize, a.wornSince);
        return face.lay(strokes);
    }

    public boolean nozzle(int of10) {
        if (!within(of10, 0, 30)) {
            return false;
        }
        this.of10 = of10;
        return true;
    }

    public int thick(int x, int y, int u, int v, int what) {
        if (!within(x, 0, SIDE - 1) || !within(y, 0, SIDE - 1) || !within(what, 0, 3)) {
            return NONE;
        }
        if (!within(u, x, SIDE - 1) || !within(v, y, SIDE - 1)) {
            return NONE;
        }
        return face.measure(x, y, u, v, what);
    }

    public int paint(int x, int y) {
        return face.paintOn(Face.spotAt(x, y));
    }

    public int clean() {
        int had = face.painted();
        face.wash();
        return had;
    }

    public int follow(int tape, int arm, int drift, int error) {
        Tape t = shop.tapeAt(tape);
        Arm own = shop.armOf(t);
        Arm a = shop.armAt(arm);
        if (t == null || own == null || a == null || t.ticks == 0 || a.joints == 0) {
            return NONE;
        }
        if (!isDrift(drift) || !isError(error) || !shop.hasRoom()) {
            return NONE;
        }
        Follower f = readyFollower();
        if (!f.search(t, own, a, drift, error)) {
            latestStop = f.stopped;
            return CANNOT;
        }
        latestStop = NONE;
        latestWay = f.leastWay;
        int number = shop.addTape(arm);
        Tape made = shop.tapeAt(number);
        for (int i = 0; made != null && i < t.ticks; i++) {
            made.addTick(f.poseAt(i), t.sprayAt(i));
        }
        return number;
    }

    public int stop() {
        return latestStop;
    }

    public int way() {
        return latestWay;
    }

    public int meet(int a, int b) {
        Tape first = shop.tapeAt(a);
        Tape second = shop.tapeAt(b);
        Arm arm0 = shop.armOf(first);
        Arm arm1 = shop.armOf(second);
        if (first == null || second == null || arm0 == null || arm1 == null) {
            return NONE;
        }
        if (first.owner != 0 || second.owner != 1 || first.ticks == 0 || second.ticks == 0) {
            return NONE;
        }
        return meeting.search(first, arm0, second, arm1);
    }

    public int met(int k) {
        return meeting.timeAt(k);
    }

    public int share(int tapes, int error, int what) {
        if (!isError(error) || !within(what, 0, 1) || !shop.canShare(tapes)) {
            return NONE;
        }
        sharing.search(shop, readyFollower(), tapes, error);
        return what == 0 ? sharing.leastTime : sharing.bits;
    }

    public boolean wear(int arm, int joint, int kind, int size, int since) {
        Arm a = shop.armAt(arm);
        if (a == null || !within(joint, 0, a.joints - 1) || !within(kind, LAG, SLACK)) {
            return false;
        }
        if (!within(size, 0, MOST_WEAR) || !within(since, 0, MOST_TICKS - 1)) {
            return false;
        }
        a.wearOut(joint, kind, size, since);
        return true;
    }

    public int suspects(int tape, int drift, int offset, int what) {
        Arm a = within(what, 0, 5) ? aimed(tape, drift, offset) : null;
        if (a == null) {
            return CANNOT;
        }
        doubt.search(strokes, a);
        return doubt.tell(what);
    }

    public int anew(int tape, int drift, int offset, int bar, int what) {
        if (!within(bar, 1, 99) || !within(what, 0, 1) || aimed(tape, drift, offset) == null) {
            return NONE;
        }
        strokes.drawAsTold();
        if (!face.findCut(strokes, bar)) {
            return CANNOT;
        }
        return what == 0 ? face.cutFrom : face.cutTo;
    }

    public int apart(int a, int b, int what) {
        Tape first = shop.tapeAt(a);
        Tape second = shop.tapeAt(b);
        if (first == null || second == null || !within(what, 0, 1)) {
            return NONE;
        }
        int greatest = NONE;
        int at = NONE;
        for (int i = 0; i < first.ticks && i < second.ticks; i++) {
            int far = tipsApart(first, second, i);
            if (far > greatest) {
                greatest = far;
                at = i;
            }
        }
        return what == 0 ? greatest : at;
    }

    public int count(int what) {
        switch (what) {
            case 0:
                return shop.arms;
            case 1:
                return shop.tapes;
            case 2:
                return shop.allTicks();
            case 3:
                return face.measure(0, 0, SIDE - 1, SIDE - 1, 2);
            case 4:
                return face.painted();
            case 5:
                return of10;
            default:
                return NONE;
        }
    }

    /** Sets the strokes on a tape beside a belt: the tape's arm, or null if there are no such ones. */
    private Arm aimed(int tape, int drift, int offset) {
        Tape t = shop.tapeAt(tape);
        Arm a = shop.armOf(t);
        if (t == null || a == null || !isDrift(drift) || !within(offset, -20000, 20000)) {
            return null;
        }
        strokes.aim(a, t, drift, offset, of10);
        return a;
    }

    private Follower readyFollower() {
        if (follower == null) {
            follower = new Follower();
        }
        return follower;
    }

    private int tipsApart(Tape first, Tape second, int tick) {
        Arm a = shop.armOf(first);
        Arm b = shop.armOf(second);
        if (a == null || b == null) {
            return 0;
        }
        int p = first.poseAt(tick);
        int q = second.poseAt(tick);
        return Math.max(Math.abs(a.tipX(p) - b.tipX(q)), Math.abs(a.tipY(p) - b.tipY(q)));
    }

    private static boolean within(int n, int least, int greatest) {
        return n >= least && n <= greatest;
    }

    private static boolean isDrift(int drift) {
        return within(drift, -2000, 2000);
    }

    private static boolean isError(int error) {
        return within(error, 0, 2000);
    }

    private static int placeOf(int pose, int joint) {
        return (pose >> (4 * joint)) & (PLACES - 1);
    }

    private static int withPlace(int pose, int joint, int place) {
        int shift = 4 * joint;
        return (pose & ~((PLACES - 1) << shift)) | (place << shift);
    }

    /** A base and up to three joints. Joints that are not there have the place 0 alone, and no speed. */
    private static final class Arm {
        private final int[] lengths = new int[MOST_JOINTS];
        private final int[] lows = new int[MOST_JOINTS];
        private final int[] highs = new int[MOST_JOINTS];
        private final int[] speeds = new int[MOST_JOINTS];
        private int baseX;
        private int baseY;
        private int joints;
        private int wornJoint;
        private int wornKind;
        private int wornSize;
        private int wornSince;

        void stand(int x, int y) {
            baseX = x;
            baseY = y;
        }

        int addJoint(int length, int low, int high, int speed) {
            if (joints < 0 || joints >= MOST_JOINTS) {
                return NONE;
            }
            lengths[joints] = length;
            lows[joints] = low;
            highs[joints] = high;
            speeds[joints] = speed;
            joints++;
            return joints - 1;
        }

        void wearOut(int joint, int kind, int size, int since) {
            wornJoint = joint;
            wornKind = kind;
            wornSize = size;
            wornSince = since;
        }

        int low(int joint) {
            return joint >= 0 && joint < MOST_JOINTS ? lows[joint] : 0;
        }

        int high(int joint) {
            return joint >= 0 && joint < MOST_JOINTS ? highs[joint] : 0;
        }

        int speed(int joint) {
            return joint >= 0 && joint < MOST_JOINTS ? speeds[joint] : 0;
        }

        boolean hasPose(int pose) {
            boolean fits = pose >= 0 && pose < POSES;
            for (int i = 0; i < MOST_JOINTS && fits; i++) {
                fits = within(placeOf(pose, i), lows[i], highs[i]);
            }
            return fits;
        }

        int pointX(int pose, int k) {
            return THOUSAND * baseX + reach(pose, k, 0);
        }

        int pointY(int pose, int k) {
            return THOUSAND * baseY + reach(pose, k, QUARTER_BACK);
        }

        int tipX(int pose) {
            return THOUSAND * baseX + reach(pose, joints, 0);
        }

        int tipY(int pose) {
            return THOUSAND * baseY + reach(pose, joints, QUARTER_BACK);
        }

        private int reach(int pose, int k, int turn) {
            int sum = 0;
            int direction = turn;
            for (int i = 0; i < k && i < MOST_JOINTS; i++) {
                direction += placeOf(pose, i);
                sum += lengths[i] * X[direction & (PLACES - 1)];
            }
            return sum;
        }

        int hopBetween(int a, int b) {
            int most = 0;
            for (int i = 0; i < joints && i < MOST_JOINTS; i++) {
                int far = Math.abs(placeOf(a, i) - placeOf(b, i));
                int speed = speeds[i];
                if (speed > 0) {
                    most = Math.max(most, (far + speed - 1) / speed);
                }
            }
            return most;
        }

        /** Ticks that stand between two poses, so that there is no jump. */
        int ticksBetween(int a, int b) {
            return Math.max(hopBetween(a, b) - 1, 0);
        }

        /** A joint's places on the way from a to b, all joints in one pose. */
        int poseOnWay(int a, int b, int i, int hop) {
            int pose = 0;
            for (int j = 0; j < joints && hop > 0; j++) {
                int from = placeOf(a, j);
                int place = from + (placeOf(b, j) - from) * i / hop;
                pose = withPlace(pose, j, place);
            }
            return pose;
        }

        /** Writes the body's cells behind from: each point but the first, and the middle ahead of it. */
        void fillBody(int pose, int[] cells, int from) {
            int x = pointX(pose, 0);
            int y = pointY(pose, 0);
            int at = from;
            for (int k = 1; k <= joints && at >= 0 && at + 1 < cells.length; k++) {
                int nextX = pointX(pose, k);
                int nextY = pointY(pose, k);
                cells[at] = cellOf(Math.floorDiv(x + nextX, 2), Math.floorDiv(y + nextY, 2));
                cells[at + 1] = cellOf(nextX, nextY);
                at += 2;
                x = nextX;
                y = nextY;
            }
        }

        /** One number for a cell: no point of an arm is 64 cells or more from the corner. */
        private static int cellOf(int x, int y) {
            return (Math.floorDiv(x, THOUSAND) + 64) * 256 + Math.floorDiv(y, THOUSAND) + 64;
        }
    }

    /** Poses and spray, tick by tick, of the arm that owns the tape. */
    private static final class Tape {
        private final int[] poses = new int[MOST_TICKS];
        private final int[] sprays = new int[MOST_TICKS];
        private int owner;
        private int ticks;

        void begin(int arm) {
            owner = arm;
            ticks = 0;
        }

        boolean has(int tick) {
            return tick >= 0 && tick < ticks && tick < MOST_TICKS;
        }

        int poseAt(int tick) {
            return has(tick) ? poses[tick] : 0;
        }

        int sprayAt(int tick) {
            return has(tick) ? sprays[tick] : 0;
        }

        int lastPose() {
            return poseAt(ticks - 1);
        }

        boolean addTick(int pose, int spray) {
            if (ticks < 0 || ticks >= MOST_TICKS) {
                return false;
            }
            poses[ticks] = pose;
            sprays[ticks] = spray;
            ticks++;
            return true;
        }

        void addCut(Tape other, int from, int to) {
            for (int i = from; i <= to && other.has(i); i++) {
                addTick(other.poseAt(i), other.sprayAt(i));
            }
        }

        void turnRound() {
            int j = ticks - 1;
            for (int i = 0; i < j && has(i) && has(j); i++) {
                int pose = poses[i];
                int spray = sprays[i];
                poses[i] = poses[j];
                sprays[i] = sprays[j];
                poses[j] = pose;
                sprays[j] = spray;
                j--;
            }
        }

        /** Each tick so many times; false, and nothing changes, if a tape can't hold that. */
        boolean slowDown(int times) {
            if (times < 1 || ticks * times > MOST_TICKS) {
                return false;
            }
            // from the end on, so that no tick is overwritten before it is read
            for (int i = ticks * times - 1; i >= 0; i--) {
                poses[i] = poses[i / times];
                sprays[i] = sprays[i / times];
            }
            ticks *= times;
            return true;
        }

        void dryUp() {
            for (int i = 0; i < ticks && i < MOST_TICKS; i++) {
                sprays[i] = 0;
            }
        }

        /** A worn joint's place at a tick; before is where it was a tick ahead. */
        int wornPlace(int joint, int kind, int size, int since, int tick, int before) {
            int told = placeOf(poseAt(tick), joint);
            if (size == 0 || tick < since) {
                return told;
            }
            if (kind == LAG) {
                return placeOf(poseAt(Math.max(tick - size, 0)), joint);
            }
            return tick == since ? told : Math.min(Math.max(before, told - size), told);
        }
    }

    /** The arms and the tapes. Tapes that a text has made so far are staged: they count only at its end. */
    private static final class Shop {
        private final Arm[] armRow = new Arm[MOST_ARMS];
        private final Tape[] tapeRow = new Tape[MOST_TAPES];
        private int arms;
        private int tapes;
        private int staged;

        Shop() {
            for (int i = 0; i < MOST_ARMS; i++) {
                armRow[i] = new Arm();
            }
            for (int i = 0; i < MOST_TAPES; i++) {
                tapeRow[i] = new Tape();
            }
        }

        Arm armAt(int number) {
            return number >= 0 && number < arms && number < MOST_ARMS ? armRow[number] : null;
        }

        Tape tapeAt(int number) {
            return number >= 0 && number < tapes && number < MOST_TAPES ? tapeRow[number] : null;
        }

        Tape tapeOrStagedAt(int number) {
            return number >= 0 && number < tapes + staged && number < MOST_TAPES ? tapeRow[number] : null;
        }

        Arm armOf(Tape t) {
            return t == null ? null : armAt(t.owner);
        }

        int addArm(int x, int y) {
            if (arms < 0 || arms >= MOST_ARMS) {
                return NONE;
            }
            Arm a = armRow[arms];
            if (a == null) {
                return NONE;
            }
            a.stand(x, y);
            arms++;
            return arms - 1;
        }

        boolean hasRoom() {
            return tapes + staged < MOST_TAPES;
        }

        int addTape(int arm) {
            Tape t = nextTape();
            if (t == null) {
                return NONE;
            }
            t.begin(arm);
            tapes++;
            return tapes - 1;
        }

        boolean stage(Tape line) {
            Tape t = nextTape();
            if (t == null) {
                return false;
            }
            t.begin(line.owner);
            t.addCut(line, 0, line.ticks - 1);
            staged++;
            return true;
        }

        private Tape nextTape() {
            int next = tapes + staged;
            return next >= 0 && next < MOST_TAPES ? tapeRow[next] : null;
        }

        int keepStaged() {
            int kept = staged;
            tapes += kept;
            staged = 0;
            return kept;
        }

        void dropStaged() {
            staged = 0;
        }

        boolean hasTapes(int arm) {
            boolean has = false;
            for (int i = 0; i < tapes; i++) {
                Tape t = tapeAt(i);
                has = has || (t != null && t.owner == arm);
            }
            return has;
        }

        int allTicks() {
            int sum = 0;
            for (int i = 0; i < tapes; i++) {
                Tape t = tapeAt(i);
                sum += t == null ? 0 : t.ticks;
            }
            return sum;
        }

        boolean canShare(int bits) {
            for (int i = 0; i < MOST_ARMS; i++) {
                Arm a = armAt(i);
                if (a == null || a.joints == 0) {
                    return false;
                }
            }
            if (bits <= 0 || bits >= 1 << tapes || Integer.bitCount(bits) > MOST_SHARED) {
                return false;
            }
            boolean full = true;
            for (int i = 0; i < tapes; i++) {
                Tape t = tapeAt(i);
                full = full && ((bits >> i & 1) == 0 || (t != null && t.ticks > 0));
            }
            return full;
        }
    }

    /** The bytes that were fed, and the tokens of the text that is read from them. */
    private static final class Text {
        private static final int MOST = 400;
        private static final int END = 0;
        private static final int BAD = 1;
        private static final int NUMBER = 2;
        private static final int CLOSE = 3;
        private static final int MAKE = 4;
        private static final int THEN = 5;
        private static final int FROM = 6;
        private static final int TO = 7;
        private static final int BACK = 8;
        private static final int SLOW = 9;
        private static final int DRY = 10;

        private final int[] bytes = new int[MOST];
        private final int[] kinds = new int[MOST + 1];
        private final int[] places = new int[MOST + 1];
        private final int[] values = new int[MOST + 1];
        private int size;
        private int tokens;

        boolean hasRoom() {
            return size + 20 <= MOST;
        }

        void addFour(int number) {
            for (int shift = 24; shift >= 0 && size < MOST; shift -= 8) {
                bytes[size] = number >> shift & 255;
                size++;
            }
        }

        /** Splits the first n bytes into tokens; then there are no bytes any more. */
        void split(int n) {
            tokens = 0;
            int at = 0;
            for (int i = 0; i < n && at < n; i++) {
                at = takeToken(at, n);
            }
            put(END, n, 0);
            size = 0;
        }

        private int takeToken(int at, int n) {
            int sign = byteAt(at);
            if (sign == ' ' || sign == '\n') {
                return at + 1;
            }
            if (within(sign, 'a', 'z')) {
                int end = endOfRow(at, n, 'a', 'z');
                put(wordKind(at, end - at), at, 0);
                return end;
            }
            if (within(sign, '0', '9')) {
                int end = endOfRow(at, n, '0', '9');
                put(NUMBER, at, valueOf(at, end));
                return end;
            }
            put(sign == ';' ? CLOSE : BAD, at, 0);
            return at + 1;
        }

        private int byteAt(int at) {
            return at >= 0 && at < MOST ? bytes[at] : 0;
        }

        private int endOfRow(int at, int n, int least, int greatest) {
            int end = at + 1;
            while (end < n && within(byteAt(end), least, greatest)) {
                end++;
            }
            return end;
        }

        private int valueOf(int at, int end) {
            int value = 0;
            for (int i = at; i < end; i++) {
                // beyond 99 all are alike, and long rows of digits must not overflow
                value = Math.min(value * 10 + byteAt(i) - '0', 100);
            }
            return value;
        }

        private int wordKind(int at, int length) {
            if (isWord(at, length, "make")) {
                return MAKE;
            }
            if (isWord(at, length, "then")) {
                return THEN;
            }
            if (isWord(at, length, "from")) {
                return FROM;
            }
            if (isWord(at, length, "to")) {
                return TO;
            }
            if (isWord(at, length, "back")) {
                return BACK;
            }
            if (isWord(at, length, "slow")) {
                return SLOW;
            }
            return isWord(at, length, "dry") ? DRY : BAD;
        }

        private boolean isWord(int at, int length, String word) {
            boolean same = length == word.length();
            for (int i = 0; i < word.length() && same; i++) {
                same = byteAt(at + i) == word.charAt(i);
            }
            return same;
        }

        private void put(int kind, int place, int value) {
            if (tokens >= 0 && tokens <= MOST) {
                kinds[tokens] = kind;
                places[tokens] = place;
                values[tokens] = value;
                tokens++;
            }
        }

        int kindAt(int token) {
            return token >= 0 && token <= MOST ? kinds[token] : END;
        }

        int placeAt(int token) {
            return token >= 0 && token <= MOST ? places[token] : NONE;
        }

        int valueAt(int token) {
            return token >= 0 && token <= MOST ? values[token] : 0;
        }
    }

    /** Reads a text line by line; each line stages a tape, and the first fault drops them all. */
    private static final class Maker {
        private static final int MOST_PARTS = 8;
        private static final int FALSE_TOKEN = 1;
        private static final int TOO_MUCH = 2;
        private static final int NO_SUCH = 3;
        private static final int UNLIKE = 4;
        private static final int TOO_LONG = 5;

        private final Shop shop;
        private final Text text;
        private final Tape line;
        private final Tape part;
        private int at;
        private boolean overfull;
        private int found;
        private int foundAt;

        /** Makes the shop and the bytes itself, so that no constructor hands out a piece of its object. */
        Maker() {
            shop = new Shop();
            text = new Text();
            line = new Tape();
            part = new Tape();
            foundAt = NONE;
        }

        int readText(int n) {
            text.split(n);
            at = 0;
            found = 0;
            foundAt = NONE;
            for (int i = 0; i <= n && found == 0 && text.kindAt(at) != Text.END; i++) {
                readLine();
            }
            if (found != 0) {
                foundAt = text.placeAt(at);
                shop.dropStaged();
                return NONE;
            }
            return shop.keepStaged();
        }

        /** Reading ends here: at stays on the token whose fault it is. */
        private void fail(int why) {
            found = why;
        }

        private boolean take(int kind) {
            if (text.kindAt(at) != kind) {
                fail(FALSE_TOKEN);
                return false;
            }
            at++;
            return true;
        }

        private void readLine() {
            if (!take(Text.MAKE)) {
                return;
            }
            overfull = false;
            boolean more = true;
            for (int parts = 0; parts < MOST_PARTS && more; parts++) {
                at += parts == 0 ? 0 : 1;
                readPart(parts == 0);
                if (found != 0) {
                    return;
                }
                joinPart();
                more = text.kindAt(at) == Text.THEN;
            }
            if (more) {
                fail(TOO_MUCH);
            } else {
                closeLine();
            }
        }

        private void closeLine() {
            if (text.kindAt(at) != Text.CLOSE) {
                fail(FALSE_TOKEN);
            } else if (overfull || !shop.stage(line)) {
                fail(TOO_LONG);
            } else {
                at++;
            }
        }

        private void readPart(boolean first) {
            Tape source = readTape(first);
            if (source == null) {
                return;
            }
            part.begin(source.owner);
            readCut(source);
            if (found == 0) {
                readChanges();
            }
        }

        /** The tape that a part names; null with a fault. */
        private Tape readTape(boolean first) {
            int number = number(0, 99);
            Tape source = shop.tapeOrStagedAt(number);
            if (number == NONE) {
                return null;
            }
            if (source == null) {
                fail(NO_SUCH);
                return null;
            }
            if (first) {
                line.begin(source.owner);
            } else if (line.owner != source.owner) {
                fail(UNLIKE);
                return null;
            }
            at++;
            return source;
        }

        private void readCut(Tape source) {
            if (text.kindAt(at) != Text.FROM) {
                part.addCut(source, 0, source.ticks - 1);
                return;
            }
            at++;
            int from = tickNumber(source, 0);
            if (from == NONE || !take(Text.TO)) {
                return;
            }
            int to = tickNumber(source, from);
            if (to != NONE) {
                part.addCut(source, from, to);
            }
        }

        private int tickNumber(Tape source, int least) {
            int tick = number(0, 99);
            if (tick == NONE) {
                return NONE;
            }
            if (tick < least || !source.has(tick)) {
                fail(NO_SUCH);
                return NONE;
            }
            at++;
            return tick;
        }

        /** The number that stands here, which is not taken yet; NONE with a fault. */
        private int number(int least, int greatest) {
            if (text.kindAt(at) != Text.NUMBER) {
                fail(FALSE_TOKEN);
                return NONE;
            }
            int value = text.valueAt(at);
            if (!within(value, least, greatest)) {
                fail(TOO_MUCH);
                return NONE;
            }
            return value;
        }

        private void readChanges() {
            boolean more = true;
            for (int i = 0; i < Text.MOST && more && found == 0; i++) {
                more = readChange();
            }
        }

        private boolean readChange() {
            switch (text.kindAt(at)) {
                case Text.BACK:
                    part.turnRound();
                    break;
                case Text.DRY:
                    part.dryUp();
                    break;
                case Text.SLOW:
                    at++;
                    int times = number(1, 9);
                    // the line is read on: faults ahead of its end come first
                    overfull = overfull || (times != NONE && !part.slowDown(times));
                    break;
                default:
                    return false;
            }
            at += found == 0 ? 1 : 0;
            return true;
        }

        private void joinPart() {
            Arm a = shop.armOf(line);
            if (a == null || overfull || part.ticks == 0) {
                return;
            }
            int from = line.lastPose();
            int to = part.poseAt(0);
            int between = line.ticks == 0 ? 0 : a.ticksBetween(from, to);
            if (line.ticks + between + part.ticks > MOST_TICKS) {
                overfull = true;
                return;
            }
            for (int i = 1; i <= between; i++) {
                line.addTick(a.poseOnWay(from, to, i, between + 1), 0);
            }
            line.addCut(part, 0, part.ticks - 1);
        }
    }

    /** Where a tape's spray comes down beside a belt, tick by tick, and how much of it. */
    private static final class Strokes {
        private final int[] spots = new int[MOST_TICKS];
        private Arm arm;
        private Tape tape;
        private int drift;
        private int offset;
        private int of10;

        void aim(Arm arm, Tape tape, int drift, int offset, int of10) {
            this.arm = arm;
            this.tape = tape;
            this.drift = drift;
            this.offset = offset;
            this.of10 = of10;
        }

        int ticks() {
            return tape == null ? 0 : Math.min(tape.ticks, MOST_TICKS);
        }

        void drawAsTold() {
            draw(0, LAG, 0, 0);
        }

        void draw(int joint, int kind, int size, int since) {
            int place = 0;
            for (int i = 0; i < ticks() && i < MOST_TICKS; i++) {
                place = wornPlace(joint, kind, size, since, i, place);
                spots[i] = spotWith(joint, place, i);
            }
        }

        int wornPlace(int joint, int kind, int size, int since, int tick, int before) {
            return tape == null ? 0 : tape.wornPlace(joint, kind, size, since, tick, before);
        }

        /** The spot under the tip at a tick, if one joint is at a place and the others are as told. */
        int spotWith(int joint, int place, int tick) {
            if (arm == null || tape == null) {
                return NONE;
            }
            int pose = withPlace(tape.poseAt(tick), joint, place);
            int x = Math.floorDiv(arm.tipX(pose) - offset - drift * tick, THOUSAND);
            return Face.spotAt(x, Math.floorDiv(arm.tipY(pose), THOUSAND));
        }

        int spotAt(int tick) {
            return tick >= 0 && tick < MOST_TICKS ? spots[tick] : NONE;
        }

        int amountAt(int tick) {
            return tape == null ? 0 : tape.sprayAt(tick) * of10 / 10;
        }
    }

    /** The paint on a part, and the shortest cut of strokes that mends it. */
    private static final class Face {
        private final int[] paint = new int[SPOTS];
        /** How much each spot lacks yet; more than 0 only where something is missing. */
        private final int[] lacks = new int[SPOTS];
        private int open;
        private int cutFrom;
        private int cutTo;

        static int spotAt(int x, int y) {
            return within(x, 0, SIDE - 1) && within(y, 0, SIDE - 1) ? y * SIDE + x : NONE;
        }

        int paintOn(int spot) {
            return spot >= 0 && spot < SPOTS ? paint[spot] : NONE;
        }

        int lay(Strokes strokes) {
            int came = 0;
            for (int i = 0; i < strokes.ticks(); i++) {
                int spot = strokes.spotAt(i);
                if (spot >= 0 && spot < SPOTS) {
                    paint[spot] += strokes.amountAt(i);
                    came += strokes.amountAt(i);
                }
            }
            return came;
        }

        int measure(int x, int y, int u, int v, int what) {
            int least = paintOn(spotAt(x, y));
            int greatest = least;
            int all = 0;
            int alike = 0;
            for (int j = y; j <= v; j++) {
                for (int i = x; i <= u; i++) {
                    int p = paintOn(spotAt(i, j));
                    alike = p < least ? 1 : p == least ? alike + 1 : alike;
                    least = Math.min(least, p);
                    greatest = Math.max(greatest, p);
                    all += p;
                }
            }
            switch (what) {
                case 0:
                    return least;
                case 1:
                    return greatest;
                case 2:
                    return all;
                default:
                    return alike;
            }
        }

        int painted() {
            int n = 0;
            for (int i = 0; i < SPOTS; i++) {
                n += paint[i] > 0 ? 1 : 0;
            }
            return n;
        }

        void wash() {
            for (int i = 0; i < SPOTS; i++) {
                paint[i] = 0;
            }
        }

        /** Sets cutFrom and cutTo; false if nothing is missing. */
        boolean findCut(Strokes told, int bar) {
            seekLacks(told, bar);
            if (open == 0) {
                return false;
            }
            int ticks = told.ticks();
            int to = 0;
            cutFrom = 0;
            cutTo = ticks;
            for (int from = 0; from < ticks; from++) {
                // a later start never needs an earlier end: to only grows
                while (open > 0 && to < ticks) {
                    change(told, to, 1);
                    to++;
                }
                if (open == 0 && to - 1 - from < cutTo - cutFrom) {
                    cutFrom = from;
                    cutTo = to - 1;
                }
                change(told, from, -1);
            }
            return true;
        }

        private void seekLacks(Strokes told, int bar) {
            for (int i = 0; i < SPOTS; i++) {
                lacks[i] = 0;
            }
            for (int i = 0; i < told.ticks(); i++) {
                int spot = told.spotAt(i);
                if (spot >= 0 && spot < SPOTS) {
                    lacks[spot] += told.amountAt(i);
                }
            }
            open = 0;
            for (int i = 0; i < SPOTS; i++) {
                boolean missing = paint[i] < bar && lacks[i] >= bar;
                lacks[i] = missing ? bar - paint[i] : 0;
                open += missing ? 1 : 0;
            }
        }

        /** A tick comes into the cut (1) or leaves it (-1). */
        private void change(Strokes told, int tick, int sign) {
            int spot = told.spotAt(tick);
            if (spot < 0 || spot >= SPOTS) {
                return;
            }
            int was = lacks[spot] > 0 ? 1 : 0;
            lacks[spot] -= sign * told.amountAt(tick);
            int is = lacks[spot] > 0 ? 1 : 0;
            open += is - was;
        }
    }

    /** Which wear could have laid the paint that the wear there is lays. */
    private static final class Doubt {
        private final int[] spots = new int[MOST_TICKS * PLACES];
        private final int[] used = new int[MOST_TICKS];
        private final int[] amounts = new int[MOST_TICKS];
        private final int[] left = new int[SPOTS];
        private final int[] leastSince = new int[MOST_JOINTS];
        private final int[] greatestSince = new int[MOST_JOINTS];
        private int ticks;
        private int total;
        private int number;
        private int joints;
        private boolean noneToo;

        void search(Strokes strokes, Arm arm) {
            takePaint(strokes, arm);
            number = 0;
            joints = 0;
            noneToo = false;
            for (int j = 0; j < arm.joints && j < MOST_JOINTS; j++) {
                leastSince[j] = MOST_TICKS;
                greatestSince[j] = NONE;
                fillSpots(strokes, arm, j);
                if (j == 0 && fits(strokes, 0, LAG, 0, 0)) {
                    noneToo = true;
                    number++;
                }
                tryJoint(strokes, j);
            }
        }

        /** left becomes the paint of the tape alone, with the wear that there is. */
        private void takePaint(Strokes strokes, Arm arm) {
            strokes.draw(arm.wornJoint, arm.wornKind, arm.wornSize, arm.wornSince);
            ticks = Math.min(strokes.ticks(), MOST_TICKS);
            total = 0;
            for (int i = 0; i < SPOTS; i++) {
                left[i] = 0;
            }
            for (int i = 0; i < ticks && i < MOST_TICKS; i++) {
                amounts[i] = strokes.amountAt(i);
                int spot = strokes.spotAt(i);
                if (spot >= 0 && spot < SPOTS) {
                    left[spot] += amounts[i];
                    total += amounts[i];
                }
            }
        }

        private void fillSpots(Strokes strokes, Arm arm, int joint) {
            for (int i = 0; i < ticks && i < MOST_TICKS; i++) {
                for (int place = arm.low(joint); place <= arm.high(joint) && place < PLACES; place++) {
                    spots[i * PLACES + place] = strokes.spotWith(joint, place, i);
                }
            }
        }

        private void tryJoint(Strokes strokes, int joint) {
            for (int kind = LAG; kind <= SLACK; kind++) {
                for (int size = 1; size <= MOST_WEAR; size++) {
                    for (int since = 0; since < ticks; since++) {
                        if (fits(strokes, joint, kind, size, since)) {
                            note(joint, since);
                        }
                    }
                }
            }
        }

        private void note(int joint, int since) {
            if (joint < 0 || joint >= MOST_JOINTS) {
                return;
            }
            number++;
            joints |= 1 << joint;
            leastSince[joint] = Math.min(leastSince[joint], since);
            greatestSince[joint] = Math.max(greatestSince[joint], since);
        }

        /** Takes a wear's paint off what is left, and puts it back: it fits if just nothing stays. */
        private boolean fits(Strokes strokes, int joint, int kind, int size, int since) {
            int taken = 0;
            int place = 0;
            int done = 0;
            boolean enough = true;
            for (int i = 0; i < ticks && i < MOST_TICKS && enough; i++) {
                place = strokes.wornPlace(joint, kind, size, since, i, place) & (PLACES - 1);
                int spot = spots[i * PLACES + place];
                used[i] = spot;
                done = i + 1;
                if (spot >= 0 && spot < SPOTS) {
                    left[spot] -= amounts[i];
                    taken += amounts[i];
                    enough = left[spot] >= 0;
                }
            }
            for (int i = 0; i < done && i < MOST_TICKS; i++) {
                int spot = used[i];
                if (spot >= 0 && spot < SPOTS) {
                    left[spot] += amounts[i];
                }
            }
            return enough && taken == total;
        }

        int tell(int what) {
            int joint = sureJoint();
            boolean sure = joint >= 0 && joint < MOST_JOINTS;
            switch (what) {
                case 0:
                    return number;
                case 1:
                    return joints;
                case 2:
                    return noneToo ? 1 : 0;
                case 3:
                    return joint;
                case 4:
                    return sure ? leastSince[joint] : NONE;
                default:
                    return sure ? greatestSince[joint] : NONE;
            }
        }

        private int sureJoint() {
            if (noneToo || Integer.bitCount(joints) != 1) {
                return NONE;
            }
            // the bits 1, 2, 4 stand for joints 0, 1, 2
            return joints >> 1;
        }
    }

    /** The least way of an arm whose tip stays near another tape's, tick by tick. */
    private static final class Follower {
        /** For each tick and pose the least way from there to the end (or, forwards, from the start). */
        private final int[] ways = new int[MOST_TICKS * POSES];
        private final int[] poses = new int[POSES];
        private final int[] tipsX = new int[POSES];
        private final int[] tipsY = new int[POSES];
        private final int[] near = new int[POSES];
        private final int[] spread = new int[POSES];
        private final int[] between = new int[POSES];
        private final int[] wantedX = new int[MOST_TICKS];
        private final int[] wantedY = new int[MOST_TICKS];
        private final int[] row = new int[MOST_TICKS];
        private Arm arm;
        private int ticks;
        private int error;
        private int nears;
        private int all;
        private int leastSeen;
        private int firstSeen;
        private int stopped;
        private int leastWay;

        Follower() {
            arm = new Arm();
        }

        int poseAt(int tick) {
            return tick >= 0 && tick < MOST_TICKS ? row[tick] : 0;
        }

        /** True: the row and its leastWay are told; false: stopped is. */
        boolean search(Tape tape, Arm own, Arm arm, int drift, int error) {
            this.arm = arm;
            this.error = error;
            aim(tape, own, drift);
            gatherPoses();
            boolean reached = true;
            for (int i = ticks - 1; i >= 0 && reached; i--) {
                reached = fillTick(i, i == ticks - 1 ? NONE : i + 1);
            }
            if (reached) {
                trace();
                return true;
            }
            // no row goes from end to end: so some tick, from the start on, is the first that none reaches
            boolean on = true;
            for (int i = 0; i < ticks && on; i++) {
                on = fillTick(i, i == 0 ? NONE : i - 1);
                stopped = i;
            }
            return false;
        }

        private void aim(Tape tape, Arm own, int drift) {
            ticks = Math.min(tape.ticks, MOST_TICKS);
            for (int i = 0; i < ticks && i < MOST_TICKS; i++) {
                int pose = tape.poseAt(i);
                wantedX[i] = own.tipX(pose) + drift * i;
                wantedY[i] = own.tipY(pose);
            }
        }

        private void trace() {
            int pose = 0;
            for (int i = 0; i < ticks && i < MOST_TICKS; i++) {
                if (i == 0) {
                    seekStart();
                    leastWay = leastSeen;
                } else {
                    seekNear(i, pose);
                }
                pose = firstSeen;
                row[i] = pose;
            }
        }

        /** Lists the arm's poses by number, with their tips. */
        private void gatherPoses() {
            all = 0;
            for (int pose = 0; pose < POSES; pose++) {
                if (arm.hasPose(pose) && all < POSES) {
                    poses[all] = pose;
                    tipsX[all] = arm.tipX(pose);
                    tipsY[all] = arm.tipY(pose);
                    all++;
                }
            }
        }

        /** Fills a tick's ways from those of the tick beside it; false if no pose is reached. */
        private boolean fillTick(int tick, int beside) {
            gatherNear(tick);
            boolean some = false;
            boolean wide = beside != NONE && isSpreadCheaper();
            if (wide) {
                spreadTick(beside);
            }
            for (int i = 0; i < nears && i < POSES; i++) {
                int pose = near[i] & (POSES - 1);
                int least = 0;
                if (wide) {
                    least = spread[pose];
                } else if (beside != NONE) {
                    seekNear(beside, pose);
                    least = leastSeen;
                }
                setWay(tick, pose, least);
                some = some || least < FAR;
            }
            return some;
        }

        private int wayAt(int tick, int pose) {
            return tick >= 0 && tick < MOST_TICKS ? ways[tick * POSES + (pose & (POSES - 1))] : FAR;
        }

        private void setWay(int tick, int pose, int value) {
            if (tick >= 0 && tick < MOST_TICKS) {
                ways[tick * POSES + (pose & (POSES - 1))] = Math.min(value, FAR);
            }
        }

        /** Lists the poses whose tips are near enough at a tick, and shuts all of the tick's ways. */
        private void gatherNear(int tick) {
            nears = 0;
            if (tick < 0 || tick >= MOST_TICKS) {
                return;
            }
            int x = wantedX[tick];
            int y = wantedY[tick];
            for (int i = 0; i < all && i < POSES; i++) {
                int pose = poses[i] & (POSES - 1);
                ways[tick * POSES + pose] = FAR;
                int farX = tipsX[i] - x;
                int farY = tipsY[i] - y;
                if (farX <= error && -farX <= error && farY <= error && -farY <= error && nears < POSES) {
                    near[nears] = pose;
                    nears++;
                }
            }
        }

        /** Few poses look round by themselves; many share three sweeps, one for each joint. */
        private boolean isSpreadCheaper() {
            int box = 1;
            int sweeps = 0;
            for (int i = 0; i < MOST_JOINTS; i++) {
                box *= 2 * arm.speed(i) + 1;
                sweeps += 2 * arm.speed(i) + 1;
            }
            return nears * box > all * sweeps;
        }

        private void spreadTick(int tick) {
            for (int i = 0; i < all && i < POSES; i++) {
                int pose = poses[i] & (POSES - 1);
                between[pose] = wayAt(tick, pose);
            }
            sweep(between, spread, 0);
            sweep(spread, between, 1);
            sweep(between, spread, 2);
        }

        /** Of each pose the least of those that one joint reaches in a tick, with its way. */
        private void sweep(int[] from, int[] into, int joint) {
            int speed = arm.speed(joint);
            int low = arm.low(joint);
            int high = arm.high(joint);
            for (int i = 0; i < all && i < POSES; i++) {
                int pose = poses[i];
                int place = placeOf(pose, joint);
                int end = Math.min(high, place + speed);
                int least = FAR;
                for (int p = Math.max(low, place - speed); p <= end; p++) {
                    int other = pose + ((p - place) << (4 * joint));
                    int step = p < place ? place - p : p - place;
                    if (other >= 0 && other < from.length && from[other] + step < least) {
                        least = from[other] + step;
                    }
                }
                if (pose >= 0 && pose < into.length) {
                    into[pose] = least;
                }
            }
        }

        /** The least way on among the poses a tick away, and the first of them that has it. */
        private void seekNear(int tick, int pose) {
            leastSeen = FAR;
            firstSeen = 0;
            int fromA = from(pose, 0);
            int toA = upTo(pose, 0);
            int fromB = from(pose, 1);
            int toB = upTo(pose, 1);
            int toC = upTo(pose, 2);
            for (int c = from(pose, 2); c <= toC; c++) {
                int wayC = Math.abs(c - placeOf(pose, 2));
                for (int b = fromB; b <= toB; b++) {
                    int wayB = wayC + Math.abs(b - placeOf(pose, 1));
                    // no way is below 0, so a row that is no nearer than the least has none that is less
                    if (wayB < leastSeen) {
                        seekInRow(tick, pose, 16 * b + 256 * c, wayB, fromA, toA);
                    }
                }
            }
        }

        private void seekInRow(int tick, int pose, int others, int way, int from, int to) {
            if (tick < 0 || tick >= MOST_TICKS) {
                return;
            }
            int place = placeOf(pose, 0);
            for (int a = from; a <= to; a++) {
                int other = (others + a) & (POSES - 1);
                int value = ways[tick * POSES + other] + way + (a < place ? place - a : a - place);
                if (value < leastSeen) {
                    leastSeen = value;
                    firstSeen = other;
                }
            }
        }

        private int from(int pose, int joint) {
            return Math.max(arm.low(joint), placeOf(pose, joint) - arm.speed(joint));
        }

        private int upTo(int pose, int joint) {
            return Math.min(arm.high(joint), placeOf(pose, joint) + arm.speed(joint));
        }

        /** The first of the poses at tick 0 that have the least way; near still lists them all. */
        private void seekStart() {
            leastSeen = FAR;
            firstSeen = 0;
            for (int i = 0; i < nears && i < POSES; i++) {
                int value = wayAt(0, near[i]);
                if (value < leastSeen) {
                    leastSeen = value;
                    firstSeen = near[i];
                }
            }
        }
    }

    /** Two tapes in one booth: each time both go on, or one waits, and their bodies share no cell. */
    private static final class Meeting {
        private static final int BODY = 2 * MOST_JOINTS;

        private final int[] bodies0 = new int[MOST_TICKS * BODY];
        private final int[] bodies1 = new int[MOST_TICKS * BODY];
        /** Times till the end from tick i of one and j of the other. */
        private final int[] times = new int[MOST_TICKS * MOST_TICKS];
        private final int[] told = new int[2 * MOST_TICKS];
        private int cells0;
        private int cells1;
        private int last0;
        private int last1;
        private int tolds;

        int timeAt(int k) {
            return k >= 0 && k < tolds && k < 2 * MOST_TICKS ? told[k] : NONE;
        }

        int search(Tape a, Arm arm0, Tape b, Arm arm1) {
            cells0 = 2 * arm0.joints;
            cells1 = 2 * arm1.joints;
            last0 = Math.min(a.ticks, MOST_TICKS) - 1;
            last1 = Math.min(b.ticks, MOST_TICKS) - 1;
            for (int i = 0; i <= last0; i++) {
                arm0.fillBody(a.poseAt(i), bodies0, i * BODY);
            }
            for (int i = 0; i <= last1; i++) {
                arm1.fillBody(b.poseAt(i), bodies1, i * BODY);
            }
            fillTimes();
            int least = timesFrom(0, 0);
            if (least >= FAR) {
                return CANNOT;
            }
            trace(least);
            return least;
        }

        private void fillTimes() {
            for (int i = last0; i >= 0; i--) {
                for (int j = last1; j >= 0; j--) {
                    int least = i == last0 && j == last1 ? 0 : 1 + leastAfter(i, j);
                    times[i * MOST_TICKS + j] = touch(i, j) ? FAR : Math.min(least, FAR);
                }
            }
        }

        private int leastAfter(int i, int j) {
            int one = Math.min(timesFrom(i + 1, j), timesFrom(i, j + 1));
            return Math.min(timesFrom(i + 1, j + 1), one);
        }

        private int timesFrom(int i, int j) {
            boolean there = within(i, 0, last0) && within(j, 0, last1);
            int at = i * MOST_TICKS + j;
            return there && at >= 0 && at < times.length ? times[at] : FAR;
        }

        private boolean touch(int i, int j) {
            for (int p = 0; p < cells0 && p < BODY; p++) {
                for (int q = 0; q < cells1 && q < BODY; q++) {
                    if (bodies0[i * BODY + p] == bodies1[j * BODY + q]) {
                        return true;
                    }
                }
            }
            return false;
        }

        /** Writes the way down: both rather than arm 0 alone, that rather than arm 1 alone. */
        private void trace(int least) {
            int i = 0;
            int j = 0;
            tolds = 0;
            for (int k = 0; k <= least && k < 2 * MOST_TICKS; k++) {
                told[k] = i + 64 * j;
                tolds = k + 1;
                int rest = least - k - 1;
                boolean both = timesFrom(i + 1, j + 1) == rest;
                boolean first = both || timesFrom(i + 1, j) == rest;
                i += first ? 1 : 0;
                j += both || !first ? 1 : 0;
            }
        }
    }

    /** Some tapes shared between two arms, each arm in its own best order. */
    private static final class Sharing {
        private static final int SETS = 32;

        private final int[] firsts = new int[MOST_ARMS * MOST_SHARED];
        private final int[] lasts = new int[MOST_ARMS * MOST_SHARED];
        private final int[] ticks = new int[MOST_SHARED];
        private final int[] numbers = new int[MOST_SHARED];
        private final boolean[] able = new boolean[MOST_ARMS * MOST_SHARED];
        /** For each arm and set of tapes the least time. */
        private final int[] times = new int[MOST_ARMS * SETS];
        /** For each set of tapes and its last one the least time between them. */
        private final int[] ends = new int[SETS * MOST_SHARED];
        private int size;
        private int leastTime;
        private int bits;

        void search(Shop shop, Follower follower, int tapes, int error) {
            size = 0;
            for (int i = 0; i < MOST_TAPES; i++) {
                Tape t = shop.tapeAt(i);
                if (t != null && (tapes >> i & 1) == 1 && size < MOST_SHARED) {
                    numbers[size] = i;
                    ticks[size] = t.ticks;
                    for (int a = 0; a < MOST_ARMS; a++) {
                        putTape(shop, follower, t, a, error);
                    }
                    size++;
                }
            }
            for (int a = 0; a < MOST_ARMS; a++) {
                Arm arm = shop.armAt(a);
                if (arm != null) {
                    fillTimes(arm, a);
                }
            }
            choose();
        }

        private void putTape(Shop shop, Follower follower, Tape t, int number, int error) {
            int at = number * MOST_SHARED + size;
            Arm own = shop.armOf(t);
            Arm arm = shop.armAt(number);
            if (own == null || arm == null || at < 0 || at >= able.length) {
                return;
            }
            if (t.owner == number) {
                able[at] = true;
                firsts[at] = t.poseAt(0);
                lasts[at] = t.lastPose();
            } else {
                able[at] = follower.search(t, own, arm, 0, error);
                firsts[at] = follower.poseAt(0);
                lasts[at] = follower.poseAt(t.ticks - 1);
            }
        }

        private void fillTimes(Arm arm, int number) {
            for (int set = 0; set < 1 << size && set < SETS; set++) {
                int least = set == 0 ? 0 : FAR;
                int sum = 0;
                for (int i = 0; i < size && i < MOST_SHARED; i++) {
                    if ((set >> i & 1) == 1) {
                        int end = leastEnd(arm, number, set, i);
                        ends[set * MOST_SHARED + i] = end;
                        least = Math.min(least, end);
                        sum += ticks[i];
                    }
                }
                setTime(number, set, Math.min(least + sum, FAR));
            }
        }

        /** The least time between the tapes of a set of which i is the last. */
        private int leastEnd(Arm arm, int number, int set, int i) {
            int base = number * MOST_SHARED;
            int rest = set & ~(1 << i);
            if (base < 0 || base + MOST_SHARED > able.length || !able[base + i]) {
                return FAR;
            }
            int least = rest == 0 ? 0 : FAR;
            for (int j = 0; j < size && j < MOST_SHARED; j++) {
                if ((rest >> j & 1) == 1) {
                    int between = arm.ticksBetween(lasts[base + j], firsts[base + i]);
                    least = Math.min(least, endAt(rest, j) + between);
                }
            }
            return least;
        }

        private int endAt(int set, int i) {
            int at = set * MOST_SHARED + i;
            return at >= 0 && at < ends.length ? ends[at] : FAR;
        }

        private void setTime(int number, int set, int value) {
            int at = number * SETS + set;
            if (at >= 0 && at < times.length) {
                times[at] = value;
            }
        }

        private int timeAt(int number, int set) {
            int at = number * SETS + set;
            return at >= 0 && at < times.length ? times[at] : FAR;
        }

        private void choose() {
            leastTime = FAR;
            int chosen = 0;
            int full = (1 << size) - 1;
            for (int set = 0; set <= full && set < SETS; set++) {
                int time = Math.max(timeAt(0, full & ~set), timeAt(1, set));
                if (time < leastTime) {
                    leastTime = time;
                    chosen = set;
                }
            }
            bits = 0;
            for (int i = 0; i < size && i < MOST_SHARED; i++) {
                bits |= (chosen >> i & 1) << numbers[i];
            }
        }
    }
}
