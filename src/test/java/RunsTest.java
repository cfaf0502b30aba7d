import java.lang.management.ManagementFactory;
import java.util.function.IntToLongFunction;
import java.util.function.ToLongFunction;

/** 'What it is': runs of just 512 calls on one object, of each call alone, and of the dearest ones. */
public final class RunsTest {
    private static final int CALLS = 512;
    private static final long NO = Long.MIN_VALUE;
    /** Less than one new row in each call would take. */
    private static final long ROOM_OF_A_RUN = 5_000;
    private static final String[] TESTS = {"p<6", "k<7", "v>0", "t<8", "o<99", "m<10"};

    public static void main(String[] args) {
        eachAloneAnswering();
        eachAloneChanging();
        lastCall();
        textsAlone();
        dearest();
        dearestOnes();
        noRoom();
        Check.end("RunsTest");
    }

    /** All 512 calls of a new object are this one; the n-th (from 0) is to answer what is due. */
    private static void alone(String call, IntToLongFunction due, ToLongFunction<GossipTrain> called) {
        GossipTrain x = new GossipTrain();
        for (int n = 0; n < CALLS; n++) {
            Check.due(call + ", call " + (n + 1), called.applyAsLong(x), due.applyAsLong(n));
        }
    }

    private static void alone(String call, long due, ToLongFunction<GossipTrain> called) {
        alone(call, n -> due, called);
    }

    private static void eachAloneAnswering() {
        Check.sentence("An object is used for at most 512 calls (of each that asks, alone)");
        alone("of", -10001, x -> x.of(0, 0));
        alone("told", 255, x -> x.told(4));
        alone("on", 0, x -> x.on(30, 1));
        alone("gets", -5, x -> x.gets(99));
        alone("hears", -1, x -> x.hears(0, 0));
        alone("best", -1, x -> x.best(0, 10));
        alone("swap", -5, x -> x.swap(10));
        alone("can", 100, x -> x.can(1, 7, 0));
        alone("odds", NO, x -> x.odds(0, 10, 0));
        alone("mean", NO, x -> x.mean(30, 0));
        alone("ends", 0, x -> x.ends(1));
        alone("looked", -5, x -> x.looked());
        alone("judge", -5, x -> x.judge(5, -1));
        alone("undo", -3, x -> x.undo());
        alone("act", 0, x -> x.act(0, 2, 9));
        alone("trace", -1, x -> x.trace(0));
        alone("taken", -11, x -> x.taken(0, 6));
        alone("count", 0, x -> x.count(6));
        alone("item", -11, x -> x.item(0, 0, 1));
        alone("read", NO, x -> x.read(0, 0));
        alone("shift", -11, x -> x.shift(0, 0, 1, 0, 1));
        alone("seat", -1, x -> x.seat(0, 0));
        alone("know", -1, x -> x.know(0, 255));
        alone("leave", -1, x -> x.leave(0, true));
        alone("row", -1, x -> x.row(0, 0, 9));
        alone("see", -1, x -> x.see(0, 0, 0));
        alone("book", -1, x -> x.book(0, 0));
    }

    private static void eachAloneChanging() {
        Check.sentence("An object is used for at most 512 calls (of each that changes, alone)");
        alone("one", n -> n < 6 ? n : -4, x -> x.one(6, 9, 3, 255));
        alone("feed", n -> n < 100 ? n + 1 : -4, x -> x.feed('w'));
        alone("branch", -10, x -> x.branch());
        alone("set", n -> n == 0 ? 0 : 99, x -> x.set(7, 1, 99));
        alone("plan", n -> n < 10 ? n + 1 : -4, x -> x.plan(0, Integer.MIN_VALUE));
        alone("no plan", 0, x -> x.plan(-1, 0));
        alone("nothing seen", 0, x -> x.see(-1, 0, 0));
        alone("no book", 0, x -> x.book(-1, 0));
        alone("image", 0, x -> x.image());
        alone("tape", 1, x -> x.tape(5, 3, 60));
        alone("pass", n -> n < 333 ? 30 * n + 30 : -3, x -> x.pass(30));
        alone("pass by 19", n -> 19 * n + 19, x -> x.pass(19));
    }

    /** A train that 512 calls were made of but for one, so that the next is the last. */
    private static GossipTrain late() {
        GossipTrain x = new GossipTrain();
        int calls = 0;
        for (int p = 0; p < 5; p++) {
            x.one(p + 2, p, 0, 1 << p);
            calls++;
        }
        String text = "slope 9";
        for (int k = 0; k < text.length(); k++) {
            x.feed(text.charAt(k));
            calls++;
        }
        x.tape(0, 1, 3);
        x.act(4, 2, 0);
        x.image();
        x.book(4, 0);
        calls += 4;
        while (calls < CALLS - 1) {
            x.told(4);
            calls++;
        }
        return x;
    }

    private static void lastCall() {
        Check.sentence("An object is used for at most 512 calls (the 512th)");
        Check.due("one", late().one(0, 0, 0, 0), 5);
        Check.due("of", late().of(4, 14), 12);
        Check.due("seat", late().seat(4, 3), 0);
        Check.due("know", late().know(4, 3), 16);
        Check.due("leave", late().leave(4, true), 0);
        Check.due("set", late().set(7, 0, 9), 3);
        Check.due("row", late().row(4, 3, 9), 0);
        Check.due("feed", late().feed('9'), 8);
        Check.due("branch", late().branch(), 0);
        Check.due("told", late().told(4), 255 - 1 - 2 - 4 - 16);
        Check.due("pass", late().pass(30), 30);
        Check.due("on", late().on(1, 1), 7);
        Check.due("gets", late().gets(1), -5);
        Check.due("hears", late().hears(0, 4), 1);
        Check.due("best", late().best(4, 1), 0);
        Check.due("swap", late().swap(10), -5);
        Check.due("see", late().see(4, 4, 12), 1);
        Check.due("can", late().can(0, 4, 0), 10);
        Check.due("odds", late().odds(0, 0, 1), 1);
        Check.due("mean", late().mean(0, 0), 1);
        Check.due("plan", late().plan(3, 43), 1);
        Check.due("ends", late().ends(0), 0);
        Check.due("book", late().book(0, 0), 2);
        Check.due("looked", late().looked(), 0);
        Check.due("judge", late().judge(0, 0), 0);
        Check.due("image", late().image(), 5);
        Check.due("undo", late().undo(), 5);
        Check.due("act", late().act(0, 0, 5), 15);
        Check.due("trace", late().trace(11), 10);
        Check.due("taken", late().taken(4, 3), 6);
        Check.due("count", late().count(6), 12);
        Check.due("tape", late().tape(5, 4, 60), 1);
        Check.due("item", late().item(0, 2, 1), 1);
        Check.due("read", late().read(0, 2), 0);
        Check.due("shift", late().shift(0, 0, 0, 1, 2), 2);
    }

    private static void textsAlone() {
        Check.sentence("An object is used for at most 512 calls (of texts alone, all six BRANCHES)");
        GossipTrain x = new GossipTrain();
        int calls = 0;
        for (int k = 0; k < 6; k++) {
            String text = "slope 1" + k + ";slope 9".repeat(8);
            Check.due("branch " + k, Check.branch(x, text), k);
            calls += text.length() + 1;
        }
        while (calls < CALLS - 1) {
            x.feed('s');
            calls++;
        }
        Check.due("the 512th", x.branch(), -4);
    }

    /** As many tests as go in, all of them true, so that each is looked at. */
    private static String dearestText() {
        StringBuilder text = new StringBuilder("warm 99 p<6");
        for (int k = 1; text.length() + 1 + TESTS[k % TESTS.length].length() <= 100; k++) {
            text.append("&").append(TESTS[k % TESTS.length]);
        }
        return text.toString();
    }

    private static final int CALLS_OF_DEAREST = 6 + dearestText().length() + 1 + 10 + 5 + 8;

    /** Six who know every tale, the dearest text, rows that are full. */
    private static GossipTrain dearestTrain() {
        GossipTrain x = new GossipTrain();
        for (int p = 0; p < 6; p++) {
            x.one(6, 9, p % 4, 255);
        }
        String text = dearestText();
        Check.holds("a full text", text.length() > 96);
        Check.due("the branch", Check.branch(x, text), 0);
        for (int k = 0; k < 10; k++) {
            x.plan(0, 0);
        }
        for (int k = 0; k < 5; k++) {
            x.see(k, 7, 30);
        }
        for (int k = 0; k < 8; k++) {
            x.book(k % 6, 255);
        }
        return x;
    }

    /** The rest of the 512 calls is this one, and answers the same each time. */
    private static void dear(String call, long due, ToLongFunction<GossipTrain> called) {
        GossipTrain x = dearestTrain();
        for (int n = CALLS_OF_DEAREST; n < CALLS; n++) {
            Check.due(call + ", call " + (n + 1), called.applyAsLong(x), due);
        }
        Check.due(call + ": the minute is as it was", x.told(0), 0);
    }

    private static void dearest() {
        Check.sentence("An object is used for at most 512 calls (of each of the dearest ones)");
        dear("swap", -5, x -> x.swap(10));
        dear("odds", 0, x -> x.odds(5, 10, 0));
        dear("odds below the line", 1, x -> x.odds(5, 10, 1));
        dear("best", 0, x -> x.best(5, 10));
        dear("can of a passenger", 10, x -> x.can(0, 5, 0));
        dear("can of a tale", 1, x -> x.can(1, 7, 0));
        dear("on", 600, x -> x.on(30, 1));
        dear("gets", -5, x -> x.gets(99));
        dear("hears", 0, x -> x.hears(5, 7));
        dear("mean", 8, x -> x.mean(30, 0));
        dear("ends", 200, x -> x.ends(0));
        dear("ash", 0, x -> x.told(4));
        dear("spread", 63, x -> x.told(37));
        dear("looked", -5, x -> x.looked());
    }

    private static void dearestOnes() {
        Check.sentence("An object is used for at most 512 calls (of all of the dearest ones, while minutes go)");
        GossipTrain x = dearestTrain();
        GossipTrain twin = dearestTrain();
        int calls = CALLS_OF_DEAREST;
        int minute = 0;
        while (calls + 7 <= CALLS) {
            int place = x.on(1, 1);
            int steam = x.on(1, 0);
            x.swap(10);
            x.odds(calls % 6, 10, 0);
            x.best(calls % 6, 10);
            x.can(1, calls % 8, 1);
            minute++;
            Check.due("minute", x.pass(1), minute);
            twin.pass(1);
            calls += 7;
            Check.due("the place that was told ahead", twin.told(3), place);
            Check.due("the steam that was told ahead", twin.told(2), steam);
        }
        Check.holds("a full run", calls > CALLS - 7);
    }

    private static long bytesMade() {
        com.sun.management.ThreadMXBean machine =
            (com.sun.management.ThreadMXBean) ManagementFactory.getThreadMXBean();
        return machine.getThreadAllocatedBytes(Thread.currentThread().getId());
    }

    /** One call of each kind: the asking and the telling ones, with a branch that is read and refused. */
    private static long someOfAll(GossipTrain x, int k) {
        long sum = x.swap(10) + x.odds(k % 6, 10, 0) + x.best(k % 6, 10) + x.can(1, k % 8, 0) + x.mean(30, 1);
        sum += x.on(30, 0) + x.gets(99) + x.hears(k % 6, 0) + x.ends(0) + x.told(4) + x.told(30) + x.looked();
        sum += x.act(k % 6, 2, k) + x.trace(0) + x.taken(0, 3) + x.judge(0, 0) + x.image() + x.undo();
        sum += x.tape(k % 6, 3, 60) + x.item(0, 1, k) + x.read(0, 1) + x.shift(0, 0, 0, 1, 9);
        return sum + x.feed('w') + x.branch() + x.pass(1);
    }

    private static void noRoom() {
        Check.sentence("An object is used for at most 512 calls (a run makes no objects but for its BRANCHES)");
        GossipTrain warming = dearestTrain();
        long sum = someOfAll(warming, 0);
        GossipTrain x = dearestTrain();
        long ahead = bytesMade();
        for (int k = 0; k < (CALLS - CALLS_OF_DEAREST) / 25; k++) {
            sum += someOfAll(x, k);
        }
        long made = bytesMade() - ahead;
        Check.holds("bytes made: " + made, made >= 0 && made < ROOM_OF_A_RUN);
        Check.holds("something was answered", sum != 0);
    }
}
