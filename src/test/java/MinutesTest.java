/** Promises 12 to 15. */
public final class MinutesTest {
    public static void main(String[] args) {
        oneMinute();
        order();
        off();
        slopes();
        held();
        often();
        pass();
        on();
        gets();
        hears();
        Check.end("MinutesTest");
    }

    private static void oneMinute() {
        GossipTrain x = new GossipTrain();
        x.one(1, 5, 0, 0b0110);
        x.one(0, 0, 0, 0b0000);
        x.one(0, 0, 1, 0b0000);
        Check.due("a minute", x.pass(1), 1);
        Check.due("minute", x.told(0), 1);
        Check.due("teller", x.of(0, 3), 0b0110);
        Check.due("who sat by heard", x.of(1, 3), 0b0010);
        Check.due("who sat elsewhere did not", x.of(2, 3), 0);
        Check.due("tale 1 twice", x.told(21), 2);
        // 11 by the girl, 5 by the one who had just heard, 5 a step
        Check.due("place", x.told(3), 3);
        Check.due("steam", x.told(2), 1);
        Check.due("no one", new GossipTrain().pass(30), 30);
    }

    private static void order() {
        GossipTrain x = new GossipTrain();
        x.one(0, 0, 0, 0);
        x.one(3, 0, 0, 0b1000);
        x.one(3, 0, 0, 0b0000);
        x.pass(1);
        Check.due("the first knew nothing ahead", x.told(23), 2);
        // 12 as it is fresh, then 5
        Check.due("steam and place", x.told(2) + 5 * x.told(3), 17);
        x.pass(1);
        Check.due("now all three", x.told(23), 5);
        Check.due("4, 3, 2 more", x.told(2) + 5 * x.told(3), 26);
    }

    private static void off() {
        GossipTrain x = new GossipTrain();
        x.one(0, 0, 0, 1);
        x.one(0, 0, 0, 0);
        x.one(0, 0, 0, 2);
        x.leave(1, true);
        x.leave(2, true);
        x.pass(1);
        Check.due("who is OFF hears nothing", x.of(1, 3), 0);
        Check.due("who is OFF tells nothing", x.of(0, 3), 1);
        Check.due("told once", x.told(20), 1);
        Check.due("not told", x.told(21), 0);
        x.leave(1, false);
        x.pass(1);
        Check.due("hears now", x.of(1, 3), 1);
    }

    private static void slopes() {
        GossipTrain x = Check.ofKinds(0);
        x.set(0, 0, 9);
        Check.due("slope 0", Check.branch(x, "slope 0"), 0);
        x.pass(1);
        Check.due("0 counts as 1", x.told(3), 18);
        Check.due("nothing is left", x.told(2), 0);
        Check.due("warm", Check.branch(x, "slope 1;warm 50 t=0"), 1);
        x.pass(1);
        Check.due("20 at most", x.told(3), 38);
        Check.due("the rest stays", x.told(2), 17 + 50 - 20);
        Check.due("slope 50", Check.branch(x, "slope 50"), 2);
        x.know(0, 0);
        x.pass(1);
        Check.due("below a slope", x.told(3), 38);
        Check.due("steam stays", x.told(2), 47);
        Check.due("slope 47", Check.branch(x, "slope 47"), 3);
        x.pass(1);
        Check.due("just one", x.told(3), 39);
        Check.due("none left", x.told(2), 0);
    }

    private static void held() {
        GossipTrain x = Check.ofKinds(1, 1, 1, 1, 1, 1);
        Check.due("hot", Check.branch(x, "slope 1;warm 99 v<9;warm 99 v<9;warm 99 v<9"), 0);
        for (int k = 0; k < 9; k++) {
            x.pass(1);
        }
        Check.due("steam is held", x.told(2), 9999);
        for (int k = 0; k < 16; k++) {
            x.pass(30);
        }
        Check.due("minute 489", x.told(0), 489);
        Check.due("place", x.told(3), 489 * 20);
        x.pass(10);
        Check.due("place ahead", x.told(3), 9980);
        Check.due("after one more", x.on(1, 1), 9999);
        x.pass(1);
        Check.due("place is held", x.told(3), 9999);
        x.pass(30);
        Check.due("place stays held", x.told(3), 9999);
        GossipTrain steep = Check.ofKinds(0);
        Check.due("hot and steep", Check.branch(steep, "slope 99;warm 99 p=0;warm 99 p=0;warm 99 p=0"), 0);
        steep.pass(1);
        Check.due("three slopes", steep.told(3), 3);
        Check.due("rest", steep.told(2), 6);
    }

    private static void often() {
        GossipTrain x = new GossipTrain();
        x.one(0, 0, 0, 1);
        x.one(0, 0, 0, 1);
        x.set(0, 1, 98);
        Check.due("warm", Check.branch(x, "warm 99 t=0"), 0);
        x.pass(1);
        Check.due("99 at most", x.told(20), 99);
        Check.due("glows of 98, 99", x.told(2) + 5 * x.told(3), 6 + 99 - 98 + 6 + 99 - 99);
    }

    private static void pass() {
        GossipTrain x = Check.ofKinds(0);
        Check.due("-1", x.pass(-1), -2);
        Check.due("31", x.pass(31), -2);
        Check.due("0", x.pass(0), 0);
        Check.due("0 tells nothing", x.told(20), 0);
        Check.due("30", x.pass(30), 30);
        for (int k = 2; k <= 333; k++) {
            x.pass(30);
        }
        Check.due("9990", x.told(0), 9990);
        Check.due("STATE", x.pass(10), -3);
        Check.due("BAD ahead of STATE", x.pass(31), -2);
        Check.due("refused changes nothing", x.told(0), 9990);
        Check.due("9999", x.pass(9), 9999);
        Check.due("STATE by one", x.pass(1), -3);
        Check.due("0 goes", x.pass(0), 9999);
        Check.due("asked goes beyond", x.on(30, 20), x.told(20));
        Check.due("gets goes beyond", x.gets(99), -5);
    }

    private static void on() {
        GossipTrain x = Check.ofKinds(0, 1);
        Check.due("what -1", x.on(0, -1), -1);
        Check.due("what 2", x.on(0, 2), -1);
        Check.due("what 9", x.on(0, 9), -1);
        Check.due("person 2", x.on(0, 12), -1);
        Check.due("what 19", x.on(0, 19), -1);
        Check.due("what 28", x.on(0, 28), -1);
        Check.due("NONE ahead of BAD", x.on(31, 12), -1);
        Check.due("n 31", x.on(31, 0), -2);
        Check.due("n -1", x.on(-1, 27), -2);
        x.know(0, 5);
        x.know(1, 0);
        x.seat(1, 0);
        int[] asked = {0, 1, 10, 11, 20, 21, 22, 27};
        GossipTrain y = Check.ofKinds(0, 1);
        y.know(0, 5);
        y.know(1, 0);
        y.seat(1, 0);
        for (int n = 0; n <= 30; n++) {
            for (int what : asked) {
                Check.due("on " + n + ", " + what, x.on(n, what), now(y, what));
            }
            y.pass(1);
        }
        Check.due("asked changes nothing", x.told(0) + x.told(2) + x.told(3) + x.told(20), 0);
    }

    private static int now(GossipTrain x, int what) {
        if (what < 2) {
            return x.told(2 + what);
        }
        return what < 20 ? x.of(what - 10, 3) : x.told(what);
    }

    private static void gets() {
        GossipTrain x = new GossipTrain();
        Check.due("-1", x.gets(-1), -2);
        Check.due("100", x.gets(100), -2);
        Check.due("at 0", x.gets(0), 0);
        Check.due("never", x.gets(1), -5);
        x.one(0, 0, 0, 1);
        Check.due("hot", Check.branch(x, "slope 10;warm 99 p=0;warm 99 p=0;warm 99 p=0"), 0);
        // 20 steps a minute
        Check.due("50", x.gets(1), 3);
        Check.due("100 is met", x.gets(2), 5);
        Check.due("far", x.gets(99), -5);
        x.pass(5);
        Check.due("is there", x.gets(2), 0);
        Check.due("past", x.gets(1), 0);
        GossipTrain y = Check.ofKinds(0);
        Check.due("one step a minute", Check.branch(y, "slope 99;warm 99 m=9|m<9"), 0);
        y.set(0, 0, 0);
        Check.due("not in 30", y.gets(1), -5);
        GossipTrain steps = Check.ofKinds(0);
        Check.due("a step by a fresh tale", Check.branch(steps, "slope 99;warm 93 t=0"), 0);
        for (int k = 0; k < 49; k++) {
            steps.pass(1);
            steps.set(0, 1, 0);
        }
        Check.due("at 49", steps.told(3), 49);
        Check.due("49 is not 50", steps.gets(1), 1);
        steps.pass(1);
        Check.due("50 is", steps.gets(1), 0);
        GossipTrain z = Check.ofKinds(1, 1, 1, 1, 1, 1);
        Check.due("even", Check.branch(z, "slope 0;warm 99 p<6;shame 2 p=0"), 0);
        Check.due("600 in 30", z.gets(12), 30);
        Check.due("650 not", z.gets(13), -5);
    }

    private static void hears() {
        GossipTrain x = new GossipTrain();
        x.one(0, 0, 0, 1);
        x.one(0, 0, 0, 2);
        x.one(0, 0, 1, 0);
        Check.due("person -1", x.hears(-1, 0), -1);
        Check.due("person 3", x.hears(3, 0), -1);
        Check.due("tale -1", x.hears(0, -1), -1);
        Check.due("tale 8", x.hears(0, 8), -1);
        Check.due("knows", x.hears(0, 0), 0);
        Check.due("in one", x.hears(1, 0), 1);
        Check.due("in the next", x.hears(0, 1), x.on(1, 10) == 3 ? 1 : 2);
        Check.due("never", x.hears(2, 0), -5);
        Check.due("asked changes nothing", x.of(1, 3), 2);
        GossipTrain late = new GossipTrain();
        late.one(0, 0, 0, 3);
        late.one(0, 0, 0, 0);
        Check.due("tale 1 is colder", Check.branch(late, "warm 52 t=0"), 0);
        // both tell tale 0, from 58 on by 2 a minute; at 6 it is still the first of several
        Check.due("late", late.hears(1, 1), 28);
        late.set(0, 0, 5);
        Check.due("at the last", late.hears(1, 1), 30);
        late.set(0, 0, 6);
        Check.due("too late", late.hears(1, 1), -5);
        GossipTrain last = new GossipTrain();
        last.one(4, 0, 0, 1);
        last.one(0, 0, 0, 0);
        last.leave(0, true);
        last.pass(1);
        last.leave(0, false);
        Check.due("a trappist waits", last.hears(1, 0), 4);
    }
}
