/** Promises 1 to 18: each bound, each refusal, what is empty and what is full. */
public final class Promises1To18BoundsTest {
    private static final int LEAST = Integer.MIN_VALUE;
    private static final int GREATEST = Integer.MAX_VALUE;

    public static void main(String[] args) {
        newObject();
        one();
        of();
        ofFavourite();
        seat();
        know();
        leave();
        set();
        row();
        feed();
        branch();
        told();
        toldWrapping();
        pass();
        passState();
        on();
        gets();
        hears();
        best();
        swap();
        see();
        seeNoneThen();
        Check.end("Promises1To18BoundsTest");
    }

    private static void newObject() {
        Check.sentence("Promise 1: No PASSENGERS, no BRANCH");
        GossipTrain x = new GossipTrain();
        Check.each("count", 0, 6, 0, what -> x.count(what));
        Check.each("no passenger", 0, 5, -10001, p -> x.of(p, 0));
        Check.due("no branch", x.told(1), 5);
        Check.due("none to come back to", x.undo(), -3);
        GossipTrain other = Check.on("slope 7");
        other.one(0, 0, 0, 0);
        other.pass(3);
        Check.due("each has its own", x.count(0) + x.count(1) + x.told(0), 0);
        Check.due("a newer one, too", new GossipTrain().count(0), 0);
    }

    private static void one() {
        Check.sentence("Promise 2: A PASSENGER: its number. NONE: kind, carriage; BAD: v, knows; FULL: 6");
        GossipTrain x = new GossipTrain();
        Check.outside("kind", 0, 6, -1, kind -> x.one(kind, 9, 3, 255));
        Check.outside("carriage", 0, 3, -1, carriage -> x.one(6, 9, carriage, 255));
        Check.outside("v", 0, 9, -2, v -> x.one(6, v, 3, 255));
        Check.outside("knows", 0, 255, -2, knows -> x.one(6, 9, 3, knows));
        Check.due("the least", x.one(0, 0, 0, 0), 0);
        Check.due("the greatest", x.one(6, 9, 3, 255), 1);
        Check.each("to six", 2, 5, 0, p -> x.one(p, 0, 0, 0) - p);
        Check.due("FULL", x.one(0, 0, 0, 0), -4);
        Check.due("FULL again", x.one(6, 9, 3, 255), -4);
        Check.due("six", x.count(0), 6);
        Check.due("the last is as it came", x.of(5, 0), 5);
    }

    private static void of() {
        Check.sentence("Promise 3: Of a PASSENGER what 0 KIND .. 4 OFF, 10 and t GLOW. -10001: NONE");
        GossipTrain x = new GossipTrain();
        x.one(0, 0, 0, 0);
        x.one(6, 9, 3, 255);
        x.leave(1, true);
        int[] first = {0, 0, 0, 0, 0};
        int[] last = {6, 9, 3, 255, 1};
        for (int what = 0; what < 5; what++) {
            Check.due("first " + what, x.of(0, what), first[what]);
            Check.due("last " + what, x.of(1, what), last[what]);
        }
        Check.each("glow of the first", 10, 17, 6, what -> x.of(0, what));
        Check.each("glow of the last", 10, 17, 12, what -> x.of(1, what));
        Check.each("none", 6, 9, -10001, what -> x.of(1, what));
        Check.each("none behind", 18, 40, -10001, what -> x.of(1, what));
        Check.each("none ahead", -40, -1, -10001, what -> x.of(1, what));
        Check.outside("what", 0, 17, -10001, what -> x.of(1, what));
        Check.outside("person", 0, 1, -10001, p -> x.of(p, 0));
        Check.each("wrapping", LEAST, LEAST + 20, -10001, what -> x.of(0, what));
        Check.each("wrapping", GREATEST - 20, GREATEST - 1, -10001, what -> x.of(0, what));
    }

    private static void ofFavourite() {
        Check.sentence("Promise 3: 5 which TALE it would tell now, OFF or not (-5: none)");
        GossipTrain x = new GossipTrain();
        x.one(0, 0, 0, 0);
        Check.due("knows none", x.of(0, 5), -5);
        x.know(0, 255);
        Check.due("the first of several", x.of(0, 5), 0);
        x.leave(0, true);
        Check.due("OFF", x.of(0, 5), 0);
        x.set(7, 0, 4);
        Check.due("the hottest", x.of(0, 5), 7);
        for (int t = 0; t < 8; t++) {
            x.set(t, 0, 1);
            x.set(t, 1, 2);
        }
        Check.due("none by 0", x.of(0, 5), -5);
        x.set(6, 1, 1);
        Check.due("one by 1", x.of(0, 5), 6);
        x.one(4, 0, 0, 255);
        Check.due("a trappist at 0", x.of(1, 5), 6);
        x.pass(1);
        Check.due("a trappist at 1", x.of(1, 5), -5);
    }

    private static void seat() {
        Check.sentence("Promise 4: A PASSENGER comes to a CARRIAGE: where it was. NONE");
        GossipTrain x = new GossipTrain();
        x.one(0, 0, 2, 0);
        x.one(0, 0, 1, 0);
        Check.due("to the first", x.seat(0, 0), 2);
        Check.due("to the last", x.seat(0, 3), 0);
        Check.due("to the same", x.seat(0, 3), 3);
        Check.outside("carriage", 0, 3, -1, carriage -> x.seat(0, carriage));
        Check.outside("person", 0, 1, -1, p -> x.seat(p, 0));
        Check.due("as it was", x.of(0, 2), 3);
        Check.due("the other", x.of(1, 2), 1);
        Check.outside("no one", 0, -1, -1, p -> new GossipTrain().seat(p, 0));
    }

    private static void know() {
        Check.sentence("Promise 5: What a PASSENGER KNOWS becomes TALES: what it was. NONE; BAD");
        GossipTrain x = new GossipTrain();
        x.one(0, 0, 0, 77);
        x.one(0, 0, 0, 1);
        Check.due("to none", x.know(0, 0), 77);
        Check.due("to all", x.know(0, 255), 0);
        Check.due("to the same", x.know(0, 255), 255);
        Check.due("to less", x.know(0, 8), 255);
        Check.outside("tales", 0, 255, -2, tales -> x.know(0, tales));
        Check.outside("person", 0, 1, -1, p -> x.know(p, 1));
        Check.outside("person and tales", 0, 1, -1, p -> x.know(p, 256));
        Check.due("as it was", x.of(0, 3), 8);
        Check.due("the other", x.of(1, 3), 1);
    }

    private static void leave() {
        Check.sentence("Promise 6: A PASSENGER is OFF, or not: whether it was. NONE");
        GossipTrain x = new GossipTrain();
        for (int p = 0; p < 6; p++) {
            x.one(0, 0, 0, 0);
        }
        Check.due("not, it was not", x.leave(5, false), 0);
        Check.due("OFF, it was not", x.leave(5, true), 0);
        Check.due("OFF, it was", x.leave(5, true), 1);
        Check.due("not, it was", x.leave(5, false), 1);
        Check.due("not again", x.leave(5, false), 0);
        Check.due("OFF", x.leave(0, true), 0);
        Check.outside("person, OFF", 0, 5, -1, p -> x.leave(p, true));
        Check.outside("person, not", 0, 5, -1, p -> x.leave(p, false));
        Check.due("the first is", x.of(0, 4), 1);
        Check.each("the others are not", 1, 5, 0, p -> x.of(p, 4));
    }

    private static void set() {
        Check.sentence("Promise 7: Of a TALE 0 HEAT, 1 TOLD OFTEN becomes n: what it was. NONE: tale, what; BAD");
        GossipTrain x = new GossipTrain();
        Check.due("least heat", x.set(0, 0, 0), 3);
        Check.due("greatest heat", x.set(0, 0, 9), 0);
        Check.due("was so", x.set(0, 0, 4), 9);
        Check.due("greatest often", x.set(7, 1, 99), 0);
        Check.due("least often", x.set(7, 1, 0), 99);
        Check.due("above any heat", x.set(7, 1, 10), 0);
        Check.outside("tale", 0, 7, -1, t -> x.set(t, 0, 1));
        Check.outside("tale, often", 0, 7, -1, t -> x.set(t, 1, 1));
        Check.outside("tale and n", 0, 7, -1, t -> x.set(t, 0, 10));
        Check.outside("what", 0, 1, -1, what -> x.set(0, what, 1));
        Check.outside("what and n", 0, 1, -1, what -> x.set(0, what, 100));
        Check.outside("heat", 0, 9, -2, n -> x.set(0, 0, n));
        Check.outside("often", 0, 99, -2, n -> x.set(7, 1, n));
        Check.due("99 is no heat", x.set(0, 0, 99), -2);
        Check.due("heat as it was", x.told(10), 4);
        Check.due("often as it was", x.told(27), 10);
    }

    private static void row() {
        Check.sentence("Promise 8: The ROW of a TOLD one becomes n. NONE: person, part; BAD; STATE: another KIND");
        GossipTrain x = new GossipTrain();
        for (int kind = 0; kind < 6; kind++) {
            x.one(kind, 0, 0, 0);
        }
        Check.each("another kind", 0, 5, -3, p -> x.row(p, 0, 0));
        Check.each("another kind, all greatest", 0, 5, -3, p -> x.row(p, 3, 9));
        GossipTrain y = new GossipTrain();
        y.one(6, 0, 0, 0);
        Check.due("least", y.row(0, 0, 0), 0);
        Check.due("greatest", y.row(0, 3, 9), 0);
        Check.due("what it was", y.row(0, 3, 8), 9);
        Check.outside("person", 0, 0, -1, p -> y.row(p, 0, 0));
        Check.outside("part", 0, 3, -1, part -> y.row(0, part, 0));
        Check.outside("part of another kind", 0, 3, -1, part -> x.row(0, part, 0));
        Check.outside("n", 0, 9, -2, n -> y.row(0, 3, n));
        Check.outside("n of another kind", 0, 9, -2, n -> x.row(0, 3, n));
        Check.outside("person and n", 0, 0, -1, p -> y.row(p, 0, 10));
        Check.due("as it was", y.row(0, 3, 0), 8);
        Check.due("tale 3 and 7 by part 3", y.of(0, 13) + y.of(0, 17), 24);
    }

    private static void feed() {
        Check.sentence("Promise 9: A sign (0 .. 127) comes behind THE TEXT's: how many it has. BAD; FULL");
        GossipTrain x = new GossipTrain();
        Check.outside("sign", 0, 127, -2, sign -> x.feed(sign));
        Check.due("none yet", x.count(5), 0);
        Check.due("the least", x.feed(0), 1);
        Check.due("the greatest", x.feed(127), 2);
        Check.each("to a hundred", 3, 100, 0, n -> x.feed('w') - n);
        Check.due("FULL", x.feed('w'), -4);
        Check.due("FULL by the least", x.feed(0), -4);
        Check.outside("sign when full", 0, 127, -2, sign -> x.feed(sign));
        Check.due("a hundred", x.count(5), 100);
        Check.due("read from the first", x.branch(), -10);
        Check.due("the first again", x.feed('w'), 1);
    }

    private static void branch() {
        Check.sentence("Promise 10: THE TEXT is a BRANCH: its number. FULL: there are 6; -10 less the FAULT");
        GossipTrain x = new GossipTrain();
        Check.due("no text", x.branch(), -10);
        Check.due("no text again", x.branch(), -10);
        Check.due("one byte too few", Check.branch(x, "slope "), -16);
        Check.due("none of it stays", Check.branch(x, "7"), -10);
        for (int k = 0; k < 6; k++) {
            Check.due("number", Check.branch(x, "slope " + k), k);
            Check.due("text is empty then", x.count(5), 0);
            Check.due("a fault", Check.branch(x, "slope 99x"), k < 5 ? -18 : -4);
            Check.due("the one that held holds", x.told(1), k);
            Check.due("text by a fault or FULL", x.count(5), k < 5 ? 0 : 9);
        }
        Check.due("FULL again", x.branch(), -4);
        Check.due("the text stays", x.count(5), 9);
        Check.due("room for more of it", x.feed('!'), 10);
        GossipTrain y = new GossipTrain();
        for (int k = 0; k < 7; k++) {
            Check.due("no fault counts", Check.branch(y, "w"), -11);
        }
        Check.due("the first", Check.branch(y, "slope 1"), 0);
    }

    private static void told() {
        Check.sentence("Promise 11: What 0 MINUTE .. 4 ASH, 10 and t HEAT, 20 and t OFTEN, 30 and t SPREAD. NONE");
        GossipTrain x = Check.on("slope 8");
        x.one(0, 0, 0, 0b10000001);
        x.one(0, 0, 0, 0);
        x.set(0, 0, 9);
        x.set(7, 0, 8);
        x.set(7, 1, 3);
        x.pass(1);
        int[] want = {1, 8, 3, 4, 0b01111110};
        for (int what = 0; what < 5; what++) {
            Check.due("told " + what, x.told(what), want[what]);
        }
        Check.due("heat 0", x.told(10), 9);
        Check.due("heat 7", x.told(17), 8);
        Check.due("often 0", x.told(20), 2);
        Check.due("often 7", x.told(27), 3);
        Check.due("spread 0", x.told(30), 3);
        Check.due("spread 7", x.told(37), 3);
        Check.each("none", 5, 9, -1, what -> x.told(what));
        Check.each("none", 18, 19, -1, what -> x.told(what));
        Check.each("none", 28, 29, -1, what -> x.told(what));
        Check.each("none", 38, 60, -1, what -> x.told(what));
        Check.outside("what", 0, 37, -1, what -> x.told(what));
    }

    private static void toldWrapping() {
        Check.sentence("Promise 11: NONE (far off)");
        GossipTrain x = new GossipTrain();
        Check.each("the least", LEAST, LEAST + 45, -1, what -> x.told(what));
        Check.each("the greatest", GREATEST - 45, GREATEST - 1, -1, what -> x.told(what));
        Check.each("below", -45, -1, -1, what -> x.told(what));
    }

    private static void pass() {
        Check.sentence("Promise 12: n MINUTES (0 .. 30) go: MINUTE. BAD");
        GossipTrain x = Check.on("slope 99;warm 99 t=0");
        x.one(0, 0, 0, 1);
        Check.outside("n", 0, 30, -2, n -> x.pass(n));
        Check.due("none went", x.told(0), 0);
        Check.due("0", x.pass(0), 0);
        Check.due("nothing was told", x.told(20), 0);
        Check.due("1", x.pass(1), 1);
        Check.due("told once", x.told(20), 1);
        Check.due("30", x.pass(30), 31);
        Check.due("told 31 times", x.told(20), 31);
        Check.due("29", x.pass(29), 60);
        Check.due("told 60 times", x.told(20), 60);
    }

    private static void passState() {
        Check.sentence("Promise 12: STATE: it would be above 9999");
        GossipTrain x = new GossipTrain();
        for (int k = 1; k <= 332; k++) {
            x.pass(30);
        }
        Check.due("9969 and 30", x.pass(9), 9969);
        x.image();
        Check.due("just 9999", x.pass(30), 9999);
        Check.due("0 more", x.pass(0), 9999);
        Check.due("1 more", x.pass(1), -3);
        Check.due("30 more", x.pass(30), -3);
        Check.outside("n", 0, 30, -2, n -> x.pass(n));
        x.undo();
        Check.due("9970", x.pass(1), 9970);
        Check.due("10000", x.pass(30), -3);
        Check.due("none went", x.told(0), 9970);
        Check.due("9999", x.pass(29), 9999);
    }

    private static void on() {
        Check.sentence("Promise 13: ON: what 0, 1, 10 and p, 20 and t. NONE; BAD: n");
        GossipTrain x = new GossipTrain();
        for (int p = 0; p < 6; p++) {
            Check.due("not yet", x.on(0, 10 + p), -1);
            x.one(0, 0, p % 4, 1 << p);
            Check.due("it is there", x.on(0, 10 + p), 1 << p);
        }
        Check.due("no seventh", x.on(0, 16), -1);
        Check.each("often", 20, 27, 0, what -> x.on(0, what));
        Check.each("none", 2, 9, -1, what -> x.on(0, what));
        Check.each("none", 16, 19, -1, what -> x.on(0, what));
        Check.each("none", 28, 40, -1, what -> x.on(0, what));
        Check.outside("what", 0, 27, -1, what -> x.on(30, what));
        Check.each("wrapping", LEAST, LEAST + 30, -1, what -> x.on(0, what));
        for (int what : new int[] {0, 1, 10, 15, 20, 27}) {
            Check.outside("n by " + what, 0, 30, -2, n -> x.on(n, what));
            Check.holds("n 30 by " + what, x.on(30, what) >= 0);
        }
        Check.outside("n and what", 0, 30, -1, n -> x.on(n, 16));
    }

    private static void gets() {
        Check.sentence("Promise 14: GETS; -5. BAD");
        GossipTrain x = new GossipTrain();
        Check.outside("station", 0, 99, -2, station -> x.gets(station));
        Check.due("the first", x.gets(0), 0);
        Check.each("not by then", 1, 99, -5, station -> x.gets(station));
    }

    private static void hears() {
        Check.sentence("Promise 15: HEARS; -5. NONE");
        GossipTrain x = new GossipTrain();
        Check.outside("no one", 0, -1, -1, p -> x.hears(p, 0));
        x.one(0, 0, 0, 0b10000000);
        x.one(0, 0, 0, 0);
        Check.outside("person", 0, 1, -1, p -> x.hears(p, 0));
        Check.outside("tale", 0, 7, -1, t -> x.hears(1, t));
        Check.each("not by then", 0, 6, -5, t -> x.hears(1, t));
        Check.due("the last tale", x.hears(1, 7), 1);
        Check.due("by who knows it", x.hears(0, 7), 0);
    }

    private static void best() {
        Check.sentence("Promise 16: SEAT. NONE; BAD: n");
        GossipTrain x = Check.on("warm 60 t=0");
        Check.outside("no one", 0, -1, -1, p -> x.best(p, 1));
        x.one(0, 0, 2, 1);
        x.one(0, 0, 3, 0);
        Check.outside("person", 0, 1, -1, p -> x.best(p, 1));
        Check.outside("n", 1, 10, -2, n -> x.best(1, n));
        Check.outside("person and n", 0, 1, -1, p -> x.best(p, 0));
        Check.each("with whom to hear", 1, 10, 2, n -> x.best(1, n));
    }

    private static void swap() {
        Check.sentence("Promise 17: SWAP; -5. BAD");
        GossipTrain x = Check.on("warm 60 t=0");
        Check.outside("n", 1, 10, -2, n -> x.swap(n));
        Check.each("no one", 1, 10, -5, n -> x.swap(n));
        x.one(0, 0, 0, 1);
        Check.each("one", 1, 10, -5, n -> x.swap(n));
        for (int p = 1; p < 6; p++) {
            x.one(0, 0, p == 5 ? 1 : 0, 0);
            x.leave(p, p != 5);
        }
        Check.outside("n of six", 1, 10, -2, n -> x.swap(n));
        Check.each("the first two who would", 1, 10, 15, n -> x.swap(n));
        x.one(0, 0, 0, 0);
        x.know(0, 0);
        Check.each("none tells", 1, 10, -5, n -> x.swap(n));
    }

    private static void see() {
        Check.sentence("Promise 18: What is SEEN comes: how many. NONE: person, tale; BAD: glow; FULL: 5");
        GossipTrain x = new GossipTrain();
        Check.outsideButMinusOne("no one", -1, -1, p -> x.see(p, 0, 0));
        x.one(0, 0, 0, 0);
        x.one(0, 0, 0, 0);
        Check.outsideButMinusOne("person", 1, -1, p -> x.see(p, 0, 0));
        Check.outside("tale", 0, 7, -1, t -> x.see(0, t, 0));
        Check.outside("glow", 0, 99, -2, glow -> x.see(0, 0, glow));
        Check.outsideButMinusOne("person and glow", 1, -1, p -> x.see(p, 0, 100));
        Check.outside("tale and glow", 0, 7, -1, t -> x.see(0, t, 100));
        Check.due("none came", x.count(2), 0);
        Check.due("the least", x.see(0, 0, 0), 1);
        Check.due("the greatest", x.see(1, 7, 99), 2);
        Check.each("to five", 3, 5, 0, n -> x.see(0, 0, 0) - n);
        Check.due("FULL", x.see(0, 0, 0), -4);
        Check.due("five", x.count(2), 5);
        Check.outsideButMinusOne("person when full", 1, -1, p -> x.see(p, 0, 0));
        Check.outside("glow when full", 0, 99, -2, glow -> x.see(0, 0, glow));
    }

    private static void seeNoneThen() {
        Check.sentence("Promise 18: (person -1: none then, 0, whatever the rest is)");
        GossipTrain x = new GossipTrain();
        Check.due("with no one", x.see(-1, 0, 0), 0);
        x.one(0, 0, 0, 0);
        for (int rest : new int[] {0, -1, 8, 100, LEAST, GREATEST}) {
            for (int k = 1; k <= 5; k++) {
                Check.due("comes", x.see(0, 0, 99), k);
            }
            Check.due("none can be so", x.can(0, 0, 0), 0);
            Check.due("none then by " + rest, x.see(-1, rest, rest), 0);
            Check.due("how many", x.count(2), 0);
            Check.due("all can be so", x.can(0, 0, 0), 10);
        }
    }
}
