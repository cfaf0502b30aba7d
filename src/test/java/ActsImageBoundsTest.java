/** 'Terms', part 2, on acts, THE TRACE and THE IMAGE: a method for each sentence that names a bound. */
public final class ActsImageBoundsTest {
    private static final int[] X = {0, 1, -1, 7, Integer.MAX_VALUE, Integer.MIN_VALUE, Integer.MAX_VALUE - 1,
        Integer.MIN_VALUE + 1, Integer.MAX_VALUE / 3 + 1, Integer.MIN_VALUE / 3 - 1, 1 << 30, -1 << 30};

    public static void main(String[] args) {
        wrapping();
        ones();
        girls();
        guards();
        scandals();
        trappists();
        vicars();
        toldOnes();
        nextAbove();
        traceAsTheyBegan();
        traceKept();
        traceOfTheLatest();
        imageOfTales();
        imageOfPassengers();
        imageOfTrain();
        imageOfSix();
        imageOfHands();
        imageOfFullHands();
        imageOfBranch();
        imageOfNothingElse();
        Check.end("ActsImageBoundsTest");
    }

    /** Kind by kind, as passenger 0 with v 0 and as passenger 5 with v 9. */
    private static GossipTrain of(int kind, int person, int v) {
        GossipTrain x = new GossipTrain();
        for (int p = 0; p < person; p++) {
            x.one(0, 3, 0, 0);
        }
        Check.due("comes", x.one(kind, v, 0, 0), person);
        return x;
    }

    private interface Body {
        int by(int x, int i, int v);
    }

    private static void acts(int kind, int act, Body want) {
        GossipTrain first = of(kind, 0, 0);
        GossipTrain last = of(kind, 5, 9);
        for (int x : X) {
            Check.due("kind " + kind + " act " + act + " of 0 by " + x, first.act(0, act, x), want.by(x, 0, 0));
            Check.due("kind " + kind + " act " + act + " of 5 by " + x, last.act(5, act, x), want.by(x, 5, 9));
        }
    }

    private static void wrapping() {
        Check.sentence("ACTS of a PASSENGER with x (wrapping)");
        GossipTrain x = of(0, 1, 9);
        Check.due("above the greatest", x.act(1, 0, Integer.MAX_VALUE), Integer.MIN_VALUE);
        Check.due("below the least", x.act(1, 1, Integer.MIN_VALUE), Integer.MAX_VALUE - 7);
        Check.due("twice, 9 less than the greatest", x.act(1, 2, Integer.MAX_VALUE - 1), -20);
        GossipTrain guard = of(2, 0, 0);
        Check.due("three times the greatest", guard.act(0, 0, Integer.MAX_VALUE), Integer.MAX_VALUE - 2);
        GossipTrain trappist = of(4, 0, 0);
        Check.due("less the least", trappist.act(0, 0, Integer.MIN_VALUE), Integer.MIN_VALUE);
        Check.due("the greatest and 1, less that", trappist.act(0, 1, Integer.MAX_VALUE), Integer.MIN_VALUE ^ 6);
        GossipTrain vicar = of(5, 5, 0);
        Check.due("5 less than the least", vicar.act(5, 2, Integer.MIN_VALUE), ((Integer.MIN_VALUE - 5) * 3 + 5) * 2);
    }

    private static void ones() {
        Check.sentence("ONE: 10 hums: x + i. 11 leans: hums(x) - v. 12 tells: leans(x) * 2");
        acts(0, 0, (x, i, v) -> x + i);
        acts(0, 1, (x, i, v) -> x + i - v);
        acts(0, 2, (x, i, v) -> (x + i - v) * 2);
    }

    private static void girls() {
        Check.sentence("GIRL: 20 leans: super.leans(x) ^ 6");
        acts(1, 0, (x, i, v) -> x + i);
        acts(1, 1, (x, i, v) -> x + i - v ^ 6);
        acts(1, 2, (x, i, v) -> (x + i - v ^ 6) * 2);
    }

    private static void guards() {
        Check.sentence("GUARD: 30 hums: super.hums(x * 3)");
        acts(2, 0, (x, i, v) -> x * 3 + i);
        acts(2, 1, (x, i, v) -> x * 3 + i - v);
        acts(2, 2, (x, i, v) -> (x * 3 + i - v) * 2);
    }

    private static void scandals() {
        Check.sentence("SCANDAL: 40 tells: super.tells(x) + leans(1)");
        acts(3, 0, (x, i, v) -> x + i);
        acts(3, 1, (x, i, v) -> x + i - v);
        acts(3, 2, (x, i, v) -> (x + i - v) * 2 + 1 + i - v);
    }

    private static void trappists() {
        Check.sentence("TRAPPIST: 50 hums: -super.hums(x). 51 leans: super.leans(x + 1)");
        acts(4, 0, (x, i, v) -> -(x + i));
        acts(4, 1, (x, i, v) -> -(x + 1 + i) - v ^ 6);
        acts(4, 2, (x, i, v) -> (-(x + 1 + i) - v ^ 6) * 2);
    }

    private static void vicars() {
        Check.sentence("VICAR: 60 tells: super.tells(x - i)");
        acts(5, 0, (x, i, v) -> x * 3 + i);
        acts(5, 1, (x, i, v) -> x * 3 + i - v);
        acts(5, 2, (x, i, v) -> ((x - i) * 3 + i - v) * 2);
    }

    private static void toldOnes() {
        Check.sentence("TOLD: 70 leans: super.leans(x) + super.hums(2). 71 hums: super.hums(x) ^ v");
        acts(6, 0, (x, i, v) -> x + i ^ v);
        acts(6, 1, (x, i, v) -> (x + i ^ v) - v + 2 + i);
        acts(6, 2, (x, i, v) -> ((x + i ^ v) - v + 2 + i) * 2 + (1 + i ^ v) - v + 2 + i);
    }

    private static void trace(int kind, int act, int... want) {
        GossipTrain x = of(kind, 2, 4);
        x.act(2, act, 3);
        Check.due("kind " + kind + " act " + act + ": bodies", x.count(6), want.length);
        for (int k = 0; k < want.length; k++) {
            Check.due("kind " + kind + " act " + act + ": body " + k, x.trace(k), want[k]);
        }
        Check.outside("kind " + kind + " act " + act, 0, want.length - 1, -1, i -> x.trace(i));
    }

    private static void nextAbove() {
        Check.sentence("the body of its KIND, or, if that has none, of the next KIND above that has one");
        trace(0, 0, 10);
        trace(1, 0, 10);
        trace(2, 0, 30, 10);
        trace(3, 0, 10);
        trace(4, 0, 50, 10);
        trace(5, 0, 30, 10);
        trace(6, 0, 71, 10);
        trace(0, 1, 11, 10);
        trace(3, 1, 11, 10);
        trace(5, 1, 11, 30, 10);
        trace(0, 2, 12, 11, 10);
        trace(1, 2, 12, 20, 11, 10);
        trace(2, 2, 12, 11, 30, 10);
    }

    private static void traceAsTheyBegan() {
        Check.sentence("THE TRACE: the numbers of the bodies that ran, as they began; done from the left on");
        trace(1, 1, 20, 11, 10);
        trace(2, 1, 11, 30, 10);
        trace(4, 1, 51, 20, 11, 50, 10);
        trace(4, 2, 12, 51, 20, 11, 50, 10);
        trace(5, 2, 60, 12, 11, 30, 10);
        trace(6, 1, 70, 11, 71, 10, 10);
        trace(3, 2, 40, 12, 11, 10, 11, 10);
    }

    private static void traceKept() {
        Check.sentence("in the latest act(); the first 20 are kept (12 are the most that can run)");
        trace(6, 2, 40, 12, 70, 11, 71, 10, 10, 70, 11, 71, 10, 10);
        GossipTrain x = new GossipTrain();
        Check.outside("none yet", 0, 0, -1, i -> x.trace(i));
        Check.due("none at 0", x.trace(0), -1);
        Check.due("none ran", x.count(6), 0);
    }

    private static void traceOfTheLatest() {
        Check.sentence("THE TRACE: in the latest act()");
        GossipTrain x = of(6, 0, 0);
        x.act(0, 2, 0);
        Check.due("twelve", x.count(6), 12);
        x.act(0, 0, 0);
        Check.due("two by the latest", x.count(6), 2);
        Check.due("the first", x.trace(0), 71);
        Check.due("the last", x.trace(1), 10);
        Check.due("none of the one ahead", x.trace(2), -1);
        x.act(0, 1, 0);
        Check.due("five by the latest", x.count(6), 5);
        Check.due("the last", x.trace(4), 10);
    }

    private static void imageOfTales() {
        Check.sentence("THE IMAGE: TALES");
        GossipTrain x = new GossipTrain();
        for (int t = 0; t < 8; t++) {
            x.set(t, 0, t);
            x.set(t, 1, 90 + t);
        }
        x.image();
        for (int t = 0; t < 8; t++) {
            x.set(t, 0, 9 - t);
            x.set(t, 1, t);
        }
        x.undo();
        Check.each("heat", 10, 17, 0, what -> x.told(what) - what + 10);
        Check.each("often", 20, 27, 90, what -> x.told(what) - what + 20);
    }

    private static void imageOfPassengers() {
        Check.sentence("THE IMAGE: PASSENGERS with all that is theirs");
        GossipTrain x = new GossipTrain();
        for (int p = 0; p < 5; p++) {
            x.one(6, p, p % 4, p);
            for (int part = 0; part < 4; part++) {
                x.row(p, part, p + part);
            }
        }
        x.leave(1, true);
        Check.due("of five", x.image(), 5);
        x.one(6, 9, 3, 255);
        for (int p = 0; p < 6; p++) {
            x.seat(p, 3 - p % 4);
            x.know(p, 200 + p);
            x.leave(p, p != 1);
            for (int part = 0; part < 4; part++) {
                x.row(p, part, 9);
            }
        }
        Check.due("five", x.undo(), 5);
        Check.due("the sixth is none", x.of(5, 0), -10001);
        for (int p = 0; p < 5; p++) {
            Check.due("kind", x.of(p, 0), 6);
            Check.due("v", x.of(p, 1), p);
            Check.due("carriage", x.of(p, 2), p % 4);
            Check.due("knows", x.of(p, 3), p);
            Check.due("OFF", x.of(p, 4), p == 1 ? 1 : 0);
            for (int part = 0; part < 4; part++) {
                Check.due("row", x.row(p, part, 0), p + part);
            }
        }
        Check.due("another sixth", x.one(6, 1, 2, 7), 5);
        Check.due("not OFF", x.of(5, 4), 0);
        Check.each("its row is 0 at first", 0, 3, 0, part -> x.row(5, part, 3));
        x.undo();
        Check.due("a girl for a sixth", x.one(1, 0, 0, 0), 5);
        Check.due("kind", x.of(5, 0), 1);
    }

    private static void imageOfTrain() {
        Check.sentence("THE IMAGE: STEAM, PLACE, MINUTE");
        GossipTrain x = new GossipTrain();
        x.one(0, 0, 0, 255);
        Check.due("of the start", x.image(), 1);
        x.pass(30);
        Check.due("again at the start", x.undo(), 1);
        Check.each("0", 2, 3, 0, what -> x.told(what));
        Check.due("minute 0", x.told(0), 0);
        x.pass(4);
        int steam = x.told(2);
        int place = x.told(3);
        x.image();
        x.pass(3);
        Check.holds("farther", x.told(3) > place);
        x.undo();
        Check.due("minute", x.told(0), 4);
        Check.due("steam", x.told(2), steam);
        Check.due("place", x.told(3), place);
    }

    private static void imageOfHands() {
        Check.sentence("THE IMAGE: SEEN, the PLAN, the BOOK");
        GossipTrain x = new GossipTrain();
        x.one(0, 0, 0, 1);
        x.one(1, 0, 0, 1);
        x.see(1, 0, 9);
        x.plan(0, 0);
        x.plan(3, 3);
        x.book(0, 1);
        x.book(1, 3);
        x.image();
        int place = x.ends(0);
        x.see(-1, 0, 0);
        x.see(0, 3, 1);
        x.see(0, 3, 1);
        x.plan(-1, 0);
        x.plan(1, 0);
        x.plan(0, 0);
        x.plan(0, 0);
        x.book(-1, 0);
        x.undo();
        Check.due("seen", x.count(2), 1);
        Check.due("what is seen", x.can(0, 1, 1), 3);
        Check.due("not what was", x.can(1, 3, 0), 100);
        Check.due("plan", x.count(3), 2);
        Check.due("ends", x.ends(0), place);
        Check.due("book", x.count(4), 2);
        Check.due("looked", x.looked(), 1);
        for (int k = 0; k < 4; k++) {
            x.see(0, 0, 6);
            x.plan(0, 0);
            x.book(0, 1);
        }
        Check.due("five seen", x.count(2), 5);
        Check.due("full", x.see(0, 0, 6), -4);
        x.undo();
        Check.due("one seen", x.count(2), 1);
        Check.due("room again", x.see(0, 0, 6), 2);
    }

    private static void imageOfFullHands() {
        Check.sentence("THE IMAGE: SEEN, the PLAN, the BOOK (full rows, to the last)");
        GossipTrain x = Check.on("slope 99");
        x.one(0, 0, 0, 1);
        x.one(1, 9, 1, 2);
        for (int k = 1; k <= 10; k++) {
            x.plan(k < 10 ? 1 : 0, 0);
            x.book(k % 2, k < 8 ? 1 + k % 2 : 77);
            x.see(k < 5 ? 0 : 1, k < 5 ? 0 : 1, k < 5 ? 6 : 15);
        }
        x.image();
        x.plan(-1, 0);
        x.book(-1, 0);
        x.see(-1, 0, 0);
        for (int k = 1; k <= 10; k++) {
            x.plan(2, 1);
            x.book(k % 2, 1 + k % 2);
            x.see(1, 1, 14);
        }
        Check.due("no minute", x.ends(1), 0);
        Check.due("none otherwise", x.looked(), -5);
        Check.due("seen otherwise", x.can(0, 1, 1), 8);
        x.undo();
        Check.due("the tenth of the plan: 15 by the girl", x.ends(1), 15);
        Check.due("the eighth of the book", x.looked(), 7);
        Check.due("the fifth that is seen", x.can(0, 1, 1), 9);
        Check.due("the first that is seen", x.can(1, 0, 0), 1);
        Check.due("full plan", x.plan(0, 0), -4);
        Check.due("full book", x.book(0, 0), -4);
        Check.due("full of what is seen", x.see(0, 0, 0), -4);
    }

    private static void imageOfSix() {
        Check.sentence("THE IMAGE: PASSENGERS (six of them)");
        for (int kind = 0; kind <= 6; kind++) {
            GossipTrain x = new GossipTrain();
            for (int p = 0; p < 5; p++) {
                x.one(0, 0, 0, 0);
            }
            x.image();
            x.one(6, 1, 1, 1);
            x.row(5, 3, 9);
            x.undo();
            x.one(kind, 9, 3, 200);
            x.leave(5, true);
            Check.due("six", x.image(), 6);
            x.leave(5, false);
            x.seat(5, 0);
            x.know(5, 1);
            x.pass(1);
            Check.due("six again", x.undo(), 6);
            int[] want = {kind, 9, 3, 200, 1};
            for (int what = 0; what < 5; what++) {
                Check.due("of the sixth " + what, x.of(5, what), want[what]);
            }
            Check.due("as it glows", x.of(5, 17), new int[] {6, 15, 3, 12, 15, -6, 12}[kind]);
        }
    }

    private static void imageOfBranch() {
        Check.sentence("THE IMAGE: which BRANCH holds");
        GossipTrain x = new GossipTrain();
        x.image();
        Check.due("the first", Check.branch(x, "slope 11"), 0);
        x.undo();
        Check.due("none held", x.told(1), 5);
        Check.due("the second", Check.branch(x, "slope 12"), 1);
        x.image();
        for (int k = 2; k < 6; k++) {
            Check.due("a newer", Check.branch(x, "slope " + (11 + k)), k);
            Check.due("holds", x.told(1), 11 + k);
            x.undo();
            Check.due("the second holds", x.told(1), 12);
            Check.due("there are more", x.count(1), k + 1);
        }
        Check.feed(x, "slope 9");
        Check.due("six there are", x.branch(), -4);
        Check.due("the second holds still", x.told(1), 12);
    }

    private static void imageOfNothingElse() {
        Check.sentence("THE IMAGE (THE TEXT, THE TRACE and TAPES are none of it)");
        GossipTrain x = of(6, 0, 0);
        Check.feed(x, "slo");
        x.tape(0, 1, 2);
        x.act(0, 0, 0);
        x.image();
        Check.feed(x, "pe 3");
        x.item(0, 1, 8);
        x.tape(1, 0, 1);
        x.act(0, 1, 0);
        x.undo();
        Check.due("text", x.count(5), 7);
        Check.due("tape", x.read(0, 1), 8);
        Check.due("another", x.read(1, 0), 0);
        Check.due("trace", x.count(6), 5);
        Check.due("the text is read", x.branch(), 0);
        Check.due("and holds", x.told(1), 3);
    }
}
