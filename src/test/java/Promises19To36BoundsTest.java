/** Promises 19 to 36: each bound, each refusal, what is empty and what is full. */
public final class Promises19To36BoundsTest {
    private static final int LEAST = Integer.MIN_VALUE;
    private static final int GREATEST = Integer.MAX_VALUE;
    private static final long NO = GossipTrain.NO;

    public static void main(String[] args) {
        can();
        odds();
        mean();
        plan();
        planFull();
        planEmptyThen();
        ends();
        book();
        bookEmptyThen();
        looked();
        judge();
        image();
        undo();
        act();
        actRefused();
        trace();
        taken();
        count();
        tape();
        tapeSizes();
        tapeHoldsNothing();
        item();
        read();
        shift();
        shiftPlaces();
        shiftAsAllWere();
        Check.end("Promises19To36BoundsTest");
    }

    /** Two passengers, of whom 1 alone knows tale 7. */
    private static GossipTrain two() {
        GossipTrain x = new GossipTrain();
        x.one(1, 3, 0, 0);
        x.one(0, 0, 0, 0b10000000);
        return x;
    }

    private static void can() {
        Check.sentence("Promise 19: What 0 CAN, 1 STALE: part 0 how many, 1 the least; -5. NONE: what, i, part");
        GossipTrain x = two();
        Check.outside("what", 0, 1, -1, what -> x.can(what, 0, 0));
        Check.outside("passenger", 0, 1, -1, i -> x.can(0, i, 0));
        Check.outside("tale", 0, 7, -1, i -> x.can(1, i, 0));
        Check.outside("part of CAN", 0, 1, -1, part -> x.can(0, 1, part));
        Check.outside("part of STALE", 0, 1, -1, part -> x.can(1, 7, part));
        Check.each("a tale that is no passenger", 2, 7, -1, i -> x.can(0, i, 0));
        Check.each("all of a passenger", 0, 1, 10, i -> x.can(0, i, 0));
        Check.each("all of a tale", 0, 7, 100, i -> x.can(1, i, 0));
        Check.each("least of a passenger", 0, 1, 0, i -> x.can(0, i, 1));
        Check.each("least of a tale", 0, 7, 0, i -> x.can(1, i, 1));
        x.see(0, 7, 50);
        Check.due("none of a passenger", x.can(0, 0, 0), 0);
        Check.due("none of a tale", x.can(1, 7, 0), 0);
        Check.due("no least of a passenger", x.can(0, 0, 1), -5);
        Check.due("no least of a tale", x.can(1, 7, 1), -5);
        GossipTrain none = new GossipTrain();
        Check.each("no one", 0, 5, -1, i -> none.can(0, i, 0));
        Check.each("tales are there", 0, 7, 100, i -> none.can(1, i, 0));
    }

    private static void odds() {
        Check.sentence("Promise 20: ODDS; part 0 above, 1 below the line. NO: person, n, part");
        GossipTrain x = two();
        Check.outside("person", 0, 1, NO, p -> x.odds(p, 1, 0));
        Check.outside("n", 0, 10, NO, n -> x.odds(0, n, 1));
        Check.outside("part", 0, 1, NO, part -> x.odds(0, 1, part));
        Check.each("0 minutes: above", 0, 1, 0, p -> x.odds(p, 0, 0));
        Check.each("0 minutes: below", 0, 1, 1, p -> x.odds(p, 0, 1));
        Check.due("8 of 8: above", x.odds(0, 1, 0), 1);
        Check.due("8 of 8: below", x.odds(0, 1, 1), 1);
        Check.each("10 minutes", 0, 10, 1, n -> x.odds(0, n, 1) > 0 ? 1 : 0);
        GossipTrain none = new GossipTrain();
        Check.outside("no one", 0, -1, NO, p -> none.odds(p, 1, 0));
    }

    private static void mean() {
        Check.sentence("Promise 21: MEAN; part likewise. NO");
        GossipTrain x = two();
        Check.outside("n", 0, 30, NO, n -> x.mean(n, 0));
        Check.outside("part", 0, 1, NO, part -> x.mean(0, part));
        Check.due("1 by 2: above", x.mean(0, 0), 1);
        Check.due("1 by 2: below", x.mean(0, 1), 2);
        Check.due("2 by 2: above", x.mean(30, 0), 1);
        Check.due("2 by 2: below", x.mean(30, 1), 1);
        GossipTrain none = new GossipTrain();
        Check.each("no one", 0, 1, NO, part -> none.mean(0, part));
    }

    private static void plan() {
        Check.sentence("Promise 22: how many there are. NONE: what (0 .. 3), person, carriage (by 3)");
        GossipTrain x = two();
        Check.outsideButMinusOne("what", 3, -1, what -> x.plan(what, 0));
        Check.outside("person by 1", 0, 1, -1, n -> x.plan(1, n));
        Check.outside("person by 2", 0, 1, -1, n -> x.plan(2, n));
        Check.each("person by 3", 20, 60, -1, n -> x.plan(3, n));
        Check.each("carriage of 0", 4, 9, -1, n -> x.plan(3, n));
        Check.each("carriage of 1", 14, 19, -1, n -> x.plan(3, n));
        Check.each("below 0", -60, -1, -1, n -> x.plan(3, n));
        Check.each("the least", LEAST, LEAST + 60, -1, n -> x.plan(3, n));
        Check.each("the greatest", GREATEST - 60, GREATEST - 1, -1, n -> x.plan(3, n));
        Check.due("none came", x.count(3), 0);
        int[] whats = {1, 1, 2, 2, 3, 3, 3, 3};
        int[] ns = {0, 1, 0, 1, 0, 3, 10, 13};
        for (int k = 0; k < 8; k++) {
            Check.due("row by " + whats[k] + ", " + ns[k], x.plan(whats[k], ns[k]), k + 1);
        }
        GossipTrain none = new GossipTrain();
        Check.each("no one", 1, 3, -1, what -> none.plan(what, 0));
        Check.due("a minute of no one", none.plan(0, 0), 1);
    }

    private static void planFull() {
        Check.sentence("Promise 22: (but by 0, whose n does not matter); FULL: 10");
        GossipTrain x = two();
        int[] any = {0, 1, 2, -1, -2, 6, 14, 99, LEAST, GREATEST};
        for (int k = 0; k < 10; k++) {
            Check.due("a minute by " + any[k], x.plan(0, any[k]), k + 1);
        }
        Check.each("FULL", 0, 2, -4, what -> x.plan(what, 1));
        Check.due("FULL by 3", x.plan(3, 13), -4);
        Check.due("NONE all the same", x.plan(3, 14), -1);
        Check.due("ten", x.count(3), 10);
        Check.due("ten minutes", x.ends(1), x.on(10, 0));
    }

    private static void planEmptyThen() {
        Check.sentence("Promise 22: (what -1: it is empty then, 0, whatever the rest is)");
        GossipTrain x = two();
        Check.due("was empty", x.plan(-1, 0), 0);
        for (int rest : new int[] {0, -1, 2, 14, LEAST, GREATEST}) {
            Check.each("row", 1, 10, 0, n -> x.plan(0, 0) - n);
            Check.due("empty then by " + rest, x.plan(-1, rest), 0);
            Check.due("how many", x.count(3), 0);
            Check.due("steam as it is", x.ends(1), 0);
        }
    }

    private static void ends() {
        Check.sentence("Promise 23: ENDS: what 0 PLACE, 1 STEAM. NONE");
        GossipTrain x = two();
        x.plan(0, 0);
        Check.due("place by 6", x.ends(0), 1);
        Check.due("steam by 6", x.ends(1), 1);
        Check.outside("what", 0, 1, -1, what -> x.ends(what));
    }

    private static void book() {
        Check.sentence("Promise 24: how many there are. NONE; BAD: knows; FULL: 8");
        GossipTrain x = two();
        Check.outsideButMinusOne("person", 1, -1, p -> x.book(p, 0));
        Check.outsideButMinusOne("person and knows", 1, -1, p -> x.book(p, 256));
        Check.outside("knows", 0, 255, -2, knows -> x.book(1, knows));
        Check.due("none came", x.count(4), 0);
        Check.due("least", x.book(0, 0), 1);
        Check.due("greatest", x.book(1, 255), 2);
        Check.each("to eight", 3, 8, 0, n -> x.book(0, 0) - n);
        Check.due("FULL", x.book(0, 0), -4);
        Check.due("eight", x.count(4), 8);
        Check.outsideButMinusOne("person when full", 1, -1, p -> x.book(p, 0));
        Check.outside("knows when full", 0, 255, -2, knows -> x.book(1, knows));
        GossipTrain none = new GossipTrain();
        Check.outsideButMinusOne("no one", -1, -1, p -> none.book(p, 0));
    }

    private static void bookEmptyThen() {
        Check.sentence("Promise 24: (person -1: it is empty then, 0, whatever the rest is)");
        GossipTrain none = new GossipTrain();
        Check.due("with no one", none.book(-1, 0), 0);
        GossipTrain x = two();
        for (int rest : new int[] {0, -1, 256, LEAST, GREATEST}) {
            Check.each("row", 1, 8, 0, n -> x.book(0, 255) - n);
            Check.due("otherwise", x.looked(), 0);
            Check.due("empty then by " + rest, x.book(-1, rest), 0);
            Check.due("how many", x.count(4), 0);
            Check.due("none otherwise", x.looked(), -5);
        }
    }

    private static void looked() {
        Check.sentence("Promise 25: LOOKED at; -5");
        GossipTrain x = two();
        Check.due("no row", x.looked(), -5);
        for (int k = 0; k < 7; k++) {
            x.book(1, 0b10000000);
        }
        Check.due("all so", x.looked(), -5);
        x.book(0, 1);
        Check.due("the last", x.looked(), 7);
        x.know(0, 1);
        Check.due("all so now", x.looked(), -5);
        x.know(1, 0);
        Check.due("the first", x.looked(), 0);
    }

    private static void judge() {
        Check.sentence("Promise 26: JUDGED from place i of a TAPE on. NONE: tape; CAST: it is no row of shorts");
        GossipTrain x = two();
        Check.outside("tape", 0, 5, -1, t -> x.judge(t, 0));
        Check.outside("tape, place below", 0, 5, -1, t -> x.judge(t, -1));
        for (int sort = 0; sort < 5; sort++) {
            x.tape(sort, sort, 60);
            Check.due("sort " + sort, x.judge(sort, 0), sort == 1 ? 1 : -12);
            Check.due("sort " + sort + ", place below", x.judge(sort, -1), sort == 1 ? 100 : -12);
            Check.due("sort " + sort + ", place beyond", x.judge(sort, 60), sort == 1 ? 100 : -12);
            x.tape(5, sort, 0);
            Check.due("none of sort " + sort, x.judge(5, 0), sort == 1 ? 100 : -12);
        }
        x.item(1, 59, 128);
        x.item(1, 1, 128);
        Check.due("both so", x.judge(1, 0), -5);
        Check.due("ends behind one", x.judge(1, 59), 0);
        Check.due("from 58", x.judge(1, 58), -5);
    }

    private static void image() {
        Check.sentence("Promise 27: THE IMAGE is taken: how many PASSENGERS there are");
        GossipTrain x = new GossipTrain();
        for (int p = 0; p <= 6; p++) {
            Check.due("of " + p, x.image(), p);
            Check.due("there are still", x.count(0), p);
            x.one(0, 0, 0, 0);
        }
        x.know(5, 7);
        Check.due("six", x.image(), 6);
        x.know(5, 8);
        Check.due("the newest one is", x.undo(), 6);
        Check.due("as it was then", x.of(5, 3), 7);
    }

    private static void undo() {
        Check.sentence("Promise 28: All is as THE IMAGE: how many PASSENGERS. STATE: there is none");
        GossipTrain x = two();
        Check.due("none", x.undo(), -3);
        Check.due("none again", x.undo(), -3);
        Check.due("of two", x.image(), 2);
        for (int k = 0; k < 3; k++) {
            x.one(6, 0, 0, 0);
            x.pass(1);
            x.know(0, 255);
            Check.due("two again", x.undo(), 2);
            Check.due("minute", x.told(0), 0);
            Check.due("knows", x.of(0, 3), 0);
            Check.due("no third", x.of(2, 0), -10001);
        }
        Check.due("it stays", x.undo(), 2);
        GossipTrain y = new GossipTrain();
        Check.due("of none", y.image(), 0);
        y.one(0, 0, 0, 0);
        Check.due("an image of none is one", y.undo(), 0);
        Check.due("no one", y.count(0), 0);
    }

    private static void act() {
        Check.sentence("Promise 29: An ACT (0 hums, 1 leans, 2 tells) of a PASSENGER with x");
        GossipTrain x = two();
        Check.due("1 hums", x.act(1, 0, 7), 8);
        Check.due("1 leans", x.act(1, 1, 7), 8);
        Check.due("1 tells", x.act(1, 2, 7), 16);
        Check.due("0 hums", x.act(0, 0, 7), 7);
        Check.due("0 leans", x.act(0, 1, 7), 4 ^ 6);
        Check.due("0 tells", x.act(0, 2, 7), (4 ^ 6) * 2);
        Check.due("by the greatest", x.act(1, 0, GREATEST), LEAST);
        Check.due("by the least", x.act(0, 1, LEAST), GREATEST - 2 ^ 6);
        x.leave(1, true);
        Check.due("OFF", x.act(1, 0, 7), 8);
    }

    private static void actRefused() {
        Check.sentence("Promise 29: 0, and no TRACE then: no such PASSENGER, act");
        GossipTrain x = two();
        int[] numbers = {-1, 2, 6, LEAST, GREATEST};
        for (int p : numbers) {
            Check.due("two bodies", x.act(1, 1, 9) > 0 ? x.count(6) : -9, 2);
            Check.due("person " + p, x.act(p, 1, 9), 0);
            Check.due("none ran", x.count(6), 0);
            Check.due("no trace", x.trace(0), -1);
        }
        for (int act : new int[] {-1, 3, 10, LEAST, GREATEST}) {
            Check.due("two bodies", x.act(1, 1, 9) > 0 ? x.count(6) : -9, 2);
            Check.due("act " + act, x.act(1, act, 9), 0);
            Check.due("none ran", x.count(6), 0);
            Check.due("no trace", x.trace(0), -1);
        }
        Check.due("both", x.act(2, 3, 9), 0);
        Check.due("no one", new GossipTrain().act(0, 0, 9), 0);
    }

    private static void trace() {
        Check.sentence("Promise 30: THE TRACE's i-th body. NONE");
        GossipTrain x = new GossipTrain();
        x.one(6, 9, 0, 0);
        Check.each("none yet", -1, 20, -1, i -> x.trace(i));
        x.act(0, 2, 0);
        int[] want = {40, 12, 70, 11, 71, 10, 10, 70, 11, 71, 10, 10};
        for (int i = 0; i < want.length; i++) {
            Check.due("body " + i, x.trace(i), want[i]);
        }
        Check.outside("i", 0, 11, -1, i -> x.trace(i));
        Check.each("behind", 12, 21, -1, i -> x.trace(i));
    }

    private static void taken() {
        Check.sentence("Promise 31: its KIND. BAD: k; NOTHING: no such PASSENGER; CAST");
        GossipTrain x = new GossipTrain();
        Check.each("no one", 0, 6, -11, k -> x.taken(0, k));
        Check.outside("k of no one", 0, 6, -2, k -> x.taken(0, k));
        for (int kind = 1; kind <= 6; kind++) {
            x.one(kind, 0, 0, 0);
        }
        Check.each("each for a ONE", 0, 5, 1, p -> x.taken(p, 0) - p);
        Check.each("each for its own", 0, 5, 1, p -> x.taken(p, p + 1) - p);
        Check.outside("person", 0, 5, -11, p -> x.taken(p, 0));
        Check.outside("k", 0, 6, -2, k -> x.taken(0, k));
        Check.due("a girl for a trappist", x.taken(0, 4), -12);
        Check.due("a trappist for a girl", x.taken(3, 1), 4);
        Check.due("a told one for a guard", x.taken(5, 2), -12);
    }

    private static void count() {
        Check.sentence("Promise 32: How many: 0 PASSENGERS .. 6 bodies. BAD");
        GossipTrain x = new GossipTrain();
        Check.outside("what", 0, 6, -2, what -> x.count(what));
        Check.each("none", 0, 6, 0, what -> x.count(what));
        for (int k = 0; k < 12; k++) {
            x.one(6, 0, 0, 0);
            Check.branch(x, "slope 1");
            x.plan(0, 0);
            if (k == 6) {
                x.branch();
            }
        }
        for (int k = 0; k < 12; k++) {
            x.see(0, 0, 0);
            x.book(0, 0);
        }
        for (int k = 0; k < 101; k++) {
            x.feed('w');
        }
        x.act(0, 2, 0);
        int[] want = {6, 6, 5, 10, 8, 100, 12};
        for (int what = 0; what < 7; what++) {
            Check.due("full " + what, x.count(what), want[what]);
        }
        Check.outside("what of full rows", 0, 6, -2, what -> x.count(what));
    }

    private static void tape() {
        Check.sentence("Promise 33: 1. NONE: tape; BAD: sort");
        GossipTrain x = new GossipTrain();
        Check.outside("tape", 0, 5, -1, t -> x.tape(t, 0, 0));
        Check.outside("tape, sort and n", 0, 5, -1, t -> x.tape(t, 9, 99));
        Check.outside("tape that holds nothing", 0, 5, -1, t -> x.tape(t, -1, 0));
        Check.outsideButMinusOne("sort", 4, -2, sort -> x.tape(0, sort, 0));
        Check.outsideButMinusOne("sort and size", 4, -2, sort -> x.tape(0, sort, -1));
        Check.each("sort", -1, 4, 1, sort -> x.tape(5, sort, 1));
        Check.each("tape", 0, 5, 1, t -> x.tape(t, 4, 1));
    }

    private static void tapeSizes() {
        Check.sentence("Promise 33: a row of n (0 .. 60) of a sort, all 0. BAD: n above 60; SIZE");
        GossipTrain x = new GossipTrain();
        for (int sort = 0; sort < 5; sort++) {
            int of = sort;
            Check.due("60", x.tape(0, of, 60), 1);
            for (int i = 0; i < 60; i += 59) {
                Check.due("0", x.read(0, i), 0);
                Check.due("item", x.item(0, i, 1), 1);
            }
            Check.due("no more", x.read(0, 60), NO);
            for (int n : new int[] {61, 62, GREATEST}) {
                Check.due("BAD by " + n, x.tape(0, of, n), -2);
            }
            for (int n : new int[] {-1, -2, LEAST}) {
                Check.due("SIZE by " + n, x.tape(0, of, n), -14);
            }
            Check.due("as it was", x.read(0, 59), 1);
            Check.due("0 items", x.tape(0, of, 0), 1);
            Check.due("none", x.read(0, 0), NO);
            Check.due("1 item", x.tape(0, of, 1), 1);
            Check.due("0 again", x.read(0, 0), 0);
            Check.due("one", x.read(0, 1), NO);
            Check.due("60 again", x.tape(0, of, 60), 1);
            Check.due("0 at the end", x.read(0, 59), 0);
        }
    }

    private static void tapeHoldsNothing() {
        Check.sentence("Promise 33: or holds nothing (sort -1: n does not matter)");
        GossipTrain x = new GossipTrain();
        for (int n : new int[] {0, 1, 60, 61, -1, LEAST, GREATEST}) {
            x.tape(3, 3, 2);
            Check.due("a row", x.item(3, 1, 5), 1);
            Check.due("holds nothing by " + n, x.tape(3, -1, n), 1);
            Check.due("item", x.item(3, 1, 5), -11);
            Check.due("read", x.read(3, 1), NO);
            Check.due("again", x.tape(3, -1, n), 1);
        }
    }

    private static void item() {
        Check.sentence("Promise 34: Item i of a TAPE becomes v: 1. NONE; NOTHING; PLACE");
        GossipTrain x = new GossipTrain();
        Check.outside("tape", 0, 5, -1, t -> x.item(t, 0, 1));
        Check.outside("tape and place", 0, 5, -1, t -> x.item(t, -1, 1));
        Check.each("nothing", 0, 5, -11, t -> x.item(t, 0, 1));
        Check.each("nothing, no place", 0, 5, -11, t -> x.item(t, 60, 1));
        x.tape(2, 3, 60);
        Check.outside("place", 0, 59, -13, i -> x.item(2, i, 1));
        Check.due("the first", x.item(2, 0, Long.MIN_VALUE), 1);
        Check.due("the last", x.item(2, 59, Long.MAX_VALUE), 1);
        Check.due("least", x.read(2, 0), Long.MIN_VALUE);
        Check.due("greatest", x.read(2, 59), Long.MAX_VALUE);
        Check.each("the others", 1, 58, 0, i -> x.read(2, i));
        x.tape(2, 3, 0);
        Check.outside("place of none", 0, -1, -13, i -> x.item(2, i, 1));
        Check.due("0 of none", x.item(2, 0, 1), -13);
    }

    private static void read() {
        Check.sentence("Promise 35: Item i of a TAPE. NO: no such TAPE, nothing there, no such place");
        GossipTrain x = new GossipTrain();
        Check.outside("tape", 0, 5, NO, t -> x.read(t, 0));
        Check.each("nothing there", 0, 5, NO, t -> x.read(t, 0));
        x.tape(5, 0, 60);
        x.item(5, 0, 3);
        x.item(5, 59, 4);
        Check.due("the first", x.read(5, 0), 3);
        Check.due("the last", x.read(5, 59), 4);
        Check.outside("place", 0, 59, NO, i -> x.read(5, i));
        x.tape(5, 0, 0);
        Check.each("place of none", -1, 1, NO, i -> x.read(5, i));
    }

    private static void shift() {
        Check.sentence("Promise 36: n. NONE: tapes; NOTHING; CAST: of unlike sorts");
        GossipTrain x = new GossipTrain();
        x.tape(0, 0, 60);
        x.tape(1, 1, 60);
        Check.outside("tape", 0, 5, -1, t -> x.shift(t, 0, 0, 0, 1));
        Check.outside("other", 0, 5, -1, t -> x.shift(0, 0, t, 0, 1));
        Check.outside("other of nothing", 0, 5, -1, t -> x.shift(5, 0, t, 0, 1));
        Check.each("from nothing", 2, 5, -11, t -> x.shift(t, 0, 0, 0, 1));
        Check.each("to nothing", 2, 5, -11, t -> x.shift(0, 0, t, 0, 1));
        Check.each("nothing, no place", 2, 5, -11, t -> x.shift(0, -1, t, 99, -1));
        Check.due("unlike", x.shift(0, 0, 1, 0, 1), -12);
        Check.due("unlike, of none", x.shift(1, 0, 0, 0, 0), -12);
        Check.due("unlike, no place", x.shift(1, 61, 0, -1, -1), -12);
        Check.due("0", x.shift(0, 0, 0, 0, 0), 0);
        Check.due("60", x.shift(0, 0, 0, 0, 60), 60);
    }

    private static void shiftPlaces() {
        Check.sentence("Promise 36: PLACE: n, i or j is below 0, or beyond either's end");
        GossipTrain x = new GossipTrain();
        x.tape(0, 2, 60);
        x.tape(1, 2, 10);
        x.item(1, 9, 7);
        Check.outside("n, of ten", 0, 10, -13, n -> x.shift(0, 0, 1, 0, n));
        Check.outside("n, to ten from 50", 0, 10, -13, n -> x.shift(0, 50, 1, 0, n));
        Check.outside("n, from ten", 0, 10, -13, n -> x.shift(1, 0, 0, 0, n));
        Check.outside("i by 10", 0, 50, -13, i -> x.shift(0, i, 1, 0, 10));
        Check.outside("j by 3", 0, 7, -13, j -> x.shift(0, 0, 1, j, 3));
        Check.outside("i by 0", 0, 60, -13, i -> x.shift(0, i, 1, 0, 0));
        Check.outside("j by 0", 0, 10, -13, j -> x.shift(0, 0, 1, j, 0));
        Check.due("all greatest", x.shift(0, GREATEST, 1, GREATEST, GREATEST), -13);
        Check.due("all least", x.shift(0, LEAST, 1, LEAST, LEAST), -13);
        Check.due("none came", x.read(1, 9), 7);
        Check.due("just to both ends", x.shift(0, 50, 1, 0, 10), 10);
        Check.due("they came", x.read(1, 9), 0);
        Check.due("one at both ends", x.shift(0, 59, 1, 9, 1), 1);
        Check.due("none at both ends", x.shift(0, 60, 1, 10, 0), 0);
        x.tape(2, 2, 0);
        Check.due("none of none", x.shift(2, 0, 2, 0, 0), 0);
        Check.due("one of none", x.shift(2, 0, 2, 0, 1), -13);
        Check.due("none of none behind its end", x.shift(2, 1, 2, 0, 0), -13);
    }

    private static void shiftAsAllWere() {
        Check.sentence("Promise 36: come to another one (or the same) from j on, as they all were before");
        for (int sort = 0; sort < 4; sort++) {
            for (int i = 0; i < 6; i++) {
                for (int j = 0; j < 6; j++) {
                    GossipTrain x = new GossipTrain();
                    x.tape(0, sort, 6);
                    x.tape(1, sort, 6);
                    for (int k = 0; k < 6; k++) {
                        x.item(0, k, 10 + k);
                    }
                    int n = 6 - Math.max(i, j);
                    Check.due("to another", x.shift(0, i, 1, j, n), n);
                    Check.due("to the same", x.shift(0, i, 0, j, n), n);
                    for (int k = 0; k < 6; k++) {
                        boolean is = k >= j && k < j + n;
                        Check.due("another's item " + k, x.read(1, k), is ? 10 + i + k - j : 0);
                        Check.due("its own item " + k, x.read(0, k), is ? 10 + i + k - j : 10 + k);
                    }
                }
            }
        }
    }
}
