import java.util.ArrayList;
import java.util.List;
import java.util.function.ToIntFunction;

/** Calls that are refused, and calls that only ask, leave all as it was: each is tried on an object that holds some of all. */
public final class RefusedTest {
    private static final Due DUE = new Due("RefusedTest");
    private static final int MANY = Integer.MAX_VALUE;
    private static final int FEW = Integer.MIN_VALUE;

    private record Call(String name, ToIntFunction<LedArms> call, int due) {
    }

    private static final List<Call> CALLS = new ArrayList<>();

    public static void main(String[] args) {
        refused();
        refusedForRoom();
        asking();
        String whole = after(x -> 0);
        for (Call c : CALLS) {
            DUE.is(c.name(), c.call().applyAsInt(rich()), c.due());
            DUE.same(c.name() + " leaves all as it was", after(c.call()), whole);
        }
        DUE.end();
    }

    private static void add(String name, int due, ToIntFunction<LedArms> call) {
        CALLS.add(new Call(name, call, due));
    }

    /** Two arms, ten tapes, paint, a fault, a stop, a way, a meeting, wear, a nozzle, 380 bytes. */
    private static LedArms rich() {
        LedArms x = new LedArms();
        Use.arm(x, 5, 5, 4, 0, 15, 3);
        Use.arm(x, 11, 5, 3, 0, 15, 2, 1, 0, 12, 1);
        Use.tape(x, 0, 3, 0, 3, 6);
        Use.tape(x, 1, 4, 0, 2, 4 + 16);
        x.tape(0);
        x.follow(0, 0, 0, 700);
        x.follow(0, 1, 0, 0);
        x.meet(0, 1);
        x.tape(1);
        for (int i = 0; i < 40; i++) {
            x.lead(4, 0, 1);
        }
        for (int i = 0; i < 4; i++) {
            Use.tape(x, 0, i, i);
        }
        Use.make(x, "make 0 from 1 to 1;");
        Use.make(x, "make 0;make 77;");
        x.nozzle(13);
        x.play(0, 100, 200);
        x.wear(0, 0, 0, 2, 1);
        x.wear(1, 1, 1, 1, 0);
        Use.feed(x, "make 77 " + " ".repeat(372));
        return x;
    }

    /** All that can be seen of such an object behind a call: bytes and wear by what they do, too. */
    private static String after(ToIntFunction<LedArms> call) {
        LedArms x = rich();
        call.applyAsInt(x);
        StringBuilder s = new StringBuilder(Use.state(x));
        s.append(" bytes ").append(x.make(381)).append(' ').append(x.feed(1, 2, 3, 4, 5)).append(' ').append(x.make(400));
        s.append(' ').append(x.fault(0)).append(' ').append(x.fault(1));
        for (int t = 0; t < 2; t++) {
            x.clean();
            s.append(" played ").append(x.play(t, 0, 0));
            for (int i = 0; i < 16; i++) {
                s.append(' ').append(x.thick(0, i, 15, i, 2)).append('/').append(x.thick(i, 0, i, 15, 2));
            }
        }
        return s.toString();
    }

    private static void refused() {
        add("arm(21, 0)", -1, x -> x.arm(21, 0));
        add("arm(1, 1), a third", -1, x -> x.arm(1, 1));
        add("joint of an arm with tapes", -1, x -> x.joint(1, 1, 0, 15, 1));
        add("joint of no arm", -1, x -> x.joint(2, 1, 0, 15, 1));
        add("tape of no arm", -1, x -> x.tape(2));
        add("lead on no tape", -1, x -> x.lead(10, 0, 0));
        add("lead to no pose", -1, x -> x.lead(0, 16, 0));
        add("lead with no spray", -1, x -> x.lead(0, 6, 10));
        add("lead with a jump", -1, x -> x.lead(0, 10, 0));
        add("lead beyond 40", -1, x -> x.lead(4, 0, 0));
        add("make(-1)", -2, x -> x.make(-1));
        add("make(381)", -2, x -> x.make(381));
        add("make of the most", -2, x -> x.make(MANY));
        add("play of no tape", -1, x -> x.play(10, 0, 0));
        add("play with no drift", -1, x -> x.play(0, 2001, 0));
        add("play with no offset", -1, x -> x.play(0, 0, -20001));
        add("nozzle(-1)", 0, x -> x.nozzle(-1) ? 1 : 0);
        add("nozzle(31)", 0, x -> x.nozzle(31) ? 1 : 0);
        add("follow of no tape", -1, x -> x.follow(10, 0, 0, 0));
        add("follow on no arm", -1, x -> x.follow(0, 2, 0, 0));
        add("follow of an empty tape", -1, x -> x.follow(2, 0, 0, 0));
        add("follow with no drift", -1, x -> x.follow(0, 0, -2001, 0));
        add("follow with no error", -1, x -> x.follow(0, 0, 0, 2001));
        add("meet of no tape", -1, x -> x.meet(10, 1));
        add("meet of the wrong arms", -1, x -> x.meet(1, 0));
        add("meet of an empty tape", -1, x -> x.meet(2, 1));
        add("wear of no arm", 0, x -> x.wear(2, 0, 0, 1, 0) ? 1 : 0);
        add("wear of no joint", 0, x -> x.wear(0, 1, 0, 0, 0) ? 1 : 0);
        add("wear of no kind", 0, x -> x.wear(0, 0, 2, 0, 0) ? 1 : 0);
        add("wear of no size", 0, x -> x.wear(0, 0, 0, 4, 0) ? 1 : 0);
        add("wear of no tick", 0, x -> x.wear(0, 0, 0, 0, 40) ? 1 : 0);
    }

    private static void refusedForRoom() {
        add("an eleventh tape", -1, x -> x.tape(0));
        add("an eleventh tape by follow", -1, x -> x.follow(0, 0, 0, 0));
        add("an eleventh tape by a follow that would stop", -1, x -> x.follow(0, 1, 0, 0));
    }

    private static void asking() {
        add("fault(2)", -1, x -> x.fault(2));
        add("point", 9000, x -> x.point(0, 0, 1, 0));
        add("point of no arm", FEW, x -> x.point(MANY, 0, 1, 0));
        add("hop", 5, x -> x.hop(0, 0, 15));
        add("hop of no pose", -1, x -> x.hop(0, 0, FEW));
        add("look at no tape", -5, RefusedTest::lookAtNoTape);
        add("look at no what", -6, RefusedTest::lookAtNoWhat);
        add("look", 6, x -> x.look(0, 2, 0));
        add("about", 40, x -> x.about(4, 1));
        add("about nothing", -1, x -> x.about(4, 2));
        add("thick", 256, x -> x.thick(0, 0, 15, 15, 3) + x.count(4));
        add("thick of nothing", -1, x -> x.thick(0, 0, 16, 15, 3));
        add("paint of no spot", -1, x -> x.paint(16, 0));
        add("stop", 1, x -> x.stop());
        add("met far behind", -1, x -> x.met(MANY));
        add("share of an empty tape", -1, x -> x.share(4, 0, 0));
        add("share of all", -1, x -> x.share(1023, 0, 0));
        add("share, least error", 3, x -> x.share(3, 0, 0));
        add("share, greatest error", 3, x -> x.share(3, 2000, 0));
        add("suspects of no tape", -2, x -> x.suspects(10, 0, 0, 0));
        add("suspects", 1, x -> x.suspects(0, 0, 0, 1));
        add("anew of no tape", -1, x -> x.anew(10, 0, 0, 1, 0));
        add("anew", 0, x -> x.anew(0, 0, 5000, 1, 0));
        add("apart", 0, x -> x.apart(0, 0, 0));
        add("apart of nothing", -1, x -> x.apart(0, 10, 0));
        add("count(6)", -1, x -> x.count(6));
    }

    private static int lookAtNoTape(LedArms x) {
        try {
            return x.look(10, 0, 0);
        } catch (IndexOutOfBoundsException e) {
            return -5;
        }
    }

    private static int lookAtNoWhat(LedArms x) {
        try {
            return x.look(0, 0, 4);
        } catch (java.util.NoSuchElementException e) {
            return -6;
        }
    }
}
