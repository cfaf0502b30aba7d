import java.util.List;
import java.util.function.Supplier;
import java.util.function.ToLongFunction;

/** 'Answers': what a refusal is, which of several, and that neither it nor a question changes a thing. */
public final class AnswersTest {
    private static final int NONE = -1, BAD = -2, STATE = -3, FULL = -4, NOTHING = -11, CAST = -12, PLACE = -13,
        SIZE = -14, BELOW = -10001;
    private static final long NO = Long.MIN_VALUE;
    private static final int LEAST = Integer.MIN_VALUE;
    private static final int GREATEST = Integer.MAX_VALUE;

    public static void main(String[] args) {
        constants();
        noneBelowZero();
        firstNamed();
        firstNamedOfTapes();
        refusedPassengers();
        refusedBranches();
        refusedMinutes();
        refusedHands();
        refusedTapes();
        refusedFull();
        refusedNew();
        refusedLate();
        asked();
        askedFull();
        askedTwice();
        Check.end("AnswersTest");
    }

    private static void constants() {
        Check.sentence("NONE (-1); BAD (-2); STATE (-3); FULL (-4); NO = Long.MIN_VALUE");
        Check.due("NONE", GossipTrain.NONE, -1);
        Check.due("BAD", GossipTrain.BAD, -2);
        Check.due("STATE", GossipTrain.STATE, -3);
        Check.due("FULL", GossipTrain.FULL, -4);
        Check.due("NO", GossipTrain.NO, Long.MIN_VALUE);
    }

    private static void noneBelowZero() {
        Check.sentence("Where it may be below 0, -10001 stands for NONE");
        GossipTrain x = Check.on("shame 7 p=0");
        x.one(0, 0, 0, 0);
        Check.due("a glow of -1", x.of(0, 10), -1);
        Check.outside("person", 0, 0, BELOW, p -> x.of(p, 10));
        Check.outside("what", 0, 17, BELOW, what -> x.of(0, what));
        Check.each("between", 6, 9, BELOW, what -> x.of(0, what));
    }

    private static void firstNamed() {
        Check.sentence("the first that a call's words name");
        GossipTrain full = Whole.full();
        Check.due("one: NONE, BAD, FULL", full.one(7, 10, 0, 0), NONE);
        Check.due("one: NONE by carriage, BAD, FULL", full.one(0, 10, 4, 256), NONE);
        Check.due("one: NONE, FULL", full.one(0, 0, -1, 0), NONE);
        Check.due("one: BAD, FULL", full.one(0, 10, 0, 0), BAD);
        Check.due("one: BAD by knows, FULL", full.one(0, 0, 0, -1), BAD);
        Check.due("know: NONE, BAD", full.know(6, 256), NONE);
        Check.due("set: NONE by tale, BAD", full.set(8, 0, 10), NONE);
        Check.due("set: NONE by what, BAD", full.set(0, 2, 100), NONE);
        Check.due("row: NONE by person, BAD", full.row(6, 0, 10), NONE);
        Check.due("row: NONE by part, BAD", full.row(5, 4, 10), NONE);
        Check.due("row: NONE by part, STATE", full.row(0, 4, 0), NONE);
        Check.due("row: BAD, STATE", full.row(0, 0, 10), BAD);
        Check.due("feed: BAD, FULL", full.feed(128), BAD);
        Check.due("branch: FULL, a FAULT", full.branch(), FULL);
        Check.due("on: NONE, BAD", full.on(31, 2), NONE);
        Check.due("best: NONE, BAD", full.best(6, 11), NONE);
        Check.due("see: NONE by person, BAD, FULL", full.see(6, 0, 100), NONE);
        Check.due("see: NONE by tale, BAD, FULL", full.see(0, 8, -1), NONE);
        Check.due("see: NONE, FULL", full.see(0, 8, 0), NONE);
        Check.due("see: BAD, FULL", full.see(0, 0, 100), BAD);
        Check.due("plan: NONE by what, FULL", full.plan(4, 0), NONE);
        Check.due("plan: NONE by person, FULL", full.plan(1, 6), NONE);
        Check.due("plan: NONE by carriage, FULL", full.plan(3, 4), NONE);
        Check.due("book: NONE, BAD, FULL", full.book(6, 256), NONE);
        Check.due("book: NONE, FULL", full.book(6, 0), NONE);
        Check.due("book: BAD, FULL", full.book(0, -1), BAD);
        Check.due("taken: BAD, NOTHING", full.taken(6, 7), BAD);
        Check.due("taken: BAD, CAST", full.taken(0, -1), BAD);
    }

    private static void firstNamedOfTapes() {
        Check.sentence("the first that a call's words name (TAPES, minutes)");
        GossipTrain x = Whole.rich();
        Check.due("tape: NONE, BAD by sort", x.tape(6, 5, 0), NONE);
        Check.due("tape: NONE, BAD by n", x.tape(-1, 0, 61), NONE);
        Check.due("tape: NONE, SIZE", x.tape(6, 0, -1), NONE);
        Check.due("tape: BAD by sort, SIZE", x.tape(0, 5, -1), BAD);
        Check.due("tape: BAD by a sort below, SIZE", x.tape(0, -2, -1), BAD);
        Check.due("item: NONE, PLACE", x.item(6, -1, 0), NONE);
        Check.due("item: NOTHING, PLACE", x.item(5, -1, 0), NOTHING);
        Check.due("shift: NONE, NOTHING", x.shift(5, 0, 6, 0, 0), NONE);
        Check.due("shift: NONE by the first, NOTHING", x.shift(-1, 0, 5, 0, 0), NONE);
        Check.due("shift: NONE, PLACE", x.shift(6, 0, 0, 0, -1), NONE);
        Check.due("shift: NOTHING, CAST, PLACE", x.shift(0, -1, 5, 0, 1), NOTHING);
        Check.due("shift: NOTHING of the first, PLACE", x.shift(5, -1, 0, 0, -1), NOTHING);
        Check.due("shift: CAST, PLACE", x.shift(0, 0, 1, 0, -1), CAST);
        Check.due("judge: NONE", x.judge(6, -1), NONE);
        Check.due("judge: CAST, a place below 0", x.judge(0, -1), CAST);
        GossipTrain none = new GossipTrain();
        none.tape(0, 0, 1);
        Check.due("judge: CAST, no PASSENGERS", none.judge(0, 0), CAST);
        Check.due("judge: NONE, no PASSENGERS", none.judge(6, 0), NONE);
        for (int k = 0; k < 333; k++) {
            none.pass(30);
        }
        none.pass(9);
        Check.due("pass: BAD, STATE", none.pass(31), BAD);
        Check.due("pass: STATE", none.pass(30), STATE);
    }

    /** Two trains alike: what is learnt of the one that was called is what is learnt of the other. */
    private static void same(String call, Supplier<GossipTrain> made, ToLongFunction<GossipTrain> called) {
        GossipTrain x = made.get();
        called.applyAsLong(x);
        List<Long> is = Whole.of(x);
        List<Long> was = Whole.of(made.get());
        Check.holds(call + " changed " + is + ", ahead of it " + was, is.equals(was));
    }

    private static void refused(String call, long want, Supplier<GossipTrain> made, ToLongFunction<GossipTrain> called) {
        Check.due(call, called.applyAsLong(made.get()), want);
        same(call, made, called);
    }

    private static void rich(String call, long want, ToLongFunction<GossipTrain> called) {
        refused(call, want, Whole::rich, called);
    }

    private static void refusedPassengers() {
        Check.sentence("What is answered so changes nothing: one, of, seat, know, leave, set, row");
        rich("one: kind", NONE, x -> x.one(7, 0, 0, 0));
        rich("one: carriage", NONE, x -> x.one(0, 0, 4, 0));
        rich("one: v", BAD, x -> x.one(0, 10, 0, 0));
        rich("one: knows", BAD, x -> x.one(0, 0, 0, 256));
        rich("of: person", BELOW, x -> x.of(5, 0));
        rich("of: what", BELOW, x -> x.of(0, 6));
        rich("seat: person", NONE, x -> x.seat(5, 0));
        rich("seat: carriage", NONE, x -> x.seat(0, 4));
        rich("seat: a carriage below", NONE, x -> x.seat(0, -1));
        rich("know: person", NONE, x -> x.know(5, 1));
        rich("know: tales", BAD, x -> x.know(0, 256));
        rich("know: tales below", BAD, x -> x.know(0, -1));
        rich("leave: person", NONE, x -> x.leave(5, true));
        rich("leave: a person below", NONE, x -> x.leave(-1, true));
        rich("set: tale", NONE, x -> x.set(8, 0, 0));
        rich("set: what", NONE, x -> x.set(0, 2, 0));
        rich("set: heat", BAD, x -> x.set(0, 0, 10));
        rich("set: often", BAD, x -> x.set(0, 1, 100));
        rich("row: person", NONE, x -> x.row(5, 0, 9));
        rich("row: part", NONE, x -> x.row(1, 4, 9));
        rich("row: a part below", NONE, x -> x.row(1, -1, 9));
        rich("row: n", BAD, x -> x.row(1, 0, 10));
        rich("row: kind", STATE, x -> x.row(3, 0, 9));
    }

    private static void refusedBranches() {
        Check.sentence("What is answered so changes nothing: feed, told, act, trace, taken, count");
        rich("feed: 128", BAD, x -> x.feed(128));
        rich("feed: -1", BAD, x -> x.feed(-1));
        rich("told: what", NONE, x -> x.told(5));
        rich("told: the greatest", NONE, x -> x.told(GREATEST));
        rich("trace: below", NONE, x -> x.trace(-1));
        rich("trace: behind", NONE, x -> x.trace(12));
        rich("taken: k", BAD, x -> x.taken(0, 7));
        rich("taken: person", NOTHING, x -> x.taken(5, 0));
        rich("taken: kind", CAST, x -> x.taken(0, 1));
        rich("count: what", BAD, x -> x.count(7));
        Supplier<GossipTrain> noTrace = () -> {
            GossipTrain x = Whole.rich();
            x.act(5, 0, 0);
            return x;
        };
        refused("act: person, but for THE TRACE", 0, noTrace, x -> x.act(5, 0, 7));
        refused("act: act, but for THE TRACE", 0, noTrace, x -> x.act(0, 3, 7));
    }

    private static void refusedMinutes() {
        Check.sentence("What is answered so changes nothing: pass, on, gets, hears, best, swap");
        rich("pass: 31", BAD, x -> x.pass(31));
        rich("pass: -1", BAD, x -> x.pass(-1));
        rich("on: what", NONE, x -> x.on(1, 2));
        rich("on: person", NONE, x -> x.on(1, 15));
        rich("on: n", BAD, x -> x.on(31, 0));
        rich("gets: 100", BAD, x -> x.gets(100));
        rich("gets: -1", BAD, x -> x.gets(-1));
        rich("hears: person", NONE, x -> x.hears(5, 0));
        rich("hears: tale", NONE, x -> x.hears(0, 8));
        rich("best: person", NONE, x -> x.best(5, 1));
        rich("best: 0", BAD, x -> x.best(0, 0));
        rich("best: 11", BAD, x -> x.best(0, 11));
        rich("swap: 0", BAD, x -> x.swap(0));
        rich("swap: 11", BAD, x -> x.swap(11));
    }

    private static void refusedHands() {
        Check.sentence("What is answered so changes nothing: see, can, odds, mean, plan, ends, book");
        rich("see: person", NONE, x -> x.see(5, 0, 0));
        rich("see: a person below -1", NONE, x -> x.see(-2, 0, 0));
        rich("see: tale", NONE, x -> x.see(0, 8, 0));
        rich("see: glow", BAD, x -> x.see(0, 0, 100));
        rich("can: what", NONE, x -> x.can(2, 0, 0));
        rich("can: person", NONE, x -> x.can(0, 5, 0));
        rich("can: tale", NONE, x -> x.can(1, 8, 0));
        rich("can: part", NONE, x -> x.can(1, 0, 2));
        rich("odds: person", NO, x -> x.odds(5, 1, 0));
        rich("odds: n", NO, x -> x.odds(0, 11, 0));
        rich("odds: part", NO, x -> x.odds(0, 1, 2));
        rich("mean: n", NO, x -> x.mean(31, 0));
        rich("mean: part", NO, x -> x.mean(1, 2));
        rich("plan: what", NONE, x -> x.plan(4, 0));
        rich("plan: a what below -1", NONE, x -> x.plan(-2, 0));
        rich("plan: person", NONE, x -> x.plan(1, 5));
        rich("plan: person of a carriage", NONE, x -> x.plan(3, 50));
        rich("plan: carriage", NONE, x -> x.plan(3, 14));
        rich("ends: what", NONE, x -> x.ends(2));
        rich("book: person", NONE, x -> x.book(5, 0));
        rich("book: a person below -1", NONE, x -> x.book(-2, 0));
        rich("book: knows", BAD, x -> x.book(0, 256));
    }

    private static void refusedTapes() {
        Check.sentence("What is answered so changes nothing: judge, tape, item, read, shift");
        rich("judge: tape", NONE, x -> x.judge(6, 0));
        rich("judge: sort", CAST, x -> x.judge(2, 0));
        rich("tape: tape", NONE, x -> x.tape(6, 0, 1));
        rich("tape: sort", BAD, x -> x.tape(0, 5, 1));
        rich("tape: 61", BAD, x -> x.tape(0, 0, 61));
        rich("tape: -1", SIZE, x -> x.tape(0, 0, -1));
        rich("item: tape", NONE, x -> x.item(6, 0, 9));
        rich("item: nothing", NOTHING, x -> x.item(5, 0, 9));
        rich("item: place", PLACE, x -> x.item(0, 3, 9));
        rich("item: a place below", PLACE, x -> x.item(0, -1, 9));
        rich("read: tape", NO, x -> x.read(6, 0));
        rich("read: nothing", NO, x -> x.read(5, 0));
        rich("read: place", NO, x -> x.read(0, 3));
        rich("shift: tapes", NONE, x -> x.shift(0, 0, 6, 0, 1));
        rich("shift: nothing", NOTHING, x -> x.shift(0, 0, 5, 0, 1));
        rich("shift: sorts", CAST, x -> x.shift(0, 0, 1, 0, 1));
        rich("shift: n below", PLACE, x -> x.shift(1, 0, 1, 1, -1));
        rich("shift: beyond the one", PLACE, x -> x.shift(1, 2, 1, 0, 2));
        rich("shift: beyond the other", PLACE, x -> x.shift(1, 0, 1, 2, 2));
        rich("shift: i below", PLACE, x -> x.shift(1, -1, 1, 0, 2));
        rich("shift: j below", PLACE, x -> x.shift(1, 0, 1, -1, 2));
    }

    private static void refusedFull() {
        Check.sentence("What is answered so changes nothing: FULL");
        refused("one", FULL, Whole::full, x -> x.one(0, 9, 3, 255));
        refused("feed", FULL, Whole::full, x -> x.feed('e'));
        refused("branch (THE TEXT stays)", FULL, Whole::full, x -> x.branch());
        refused("see", FULL, Whole::full, x -> x.see(5, 7, 99));
        refused("plan", FULL, Whole::full, x -> x.plan(1, 5));
        refused("book", FULL, Whole::full, x -> x.book(5, 255));
        refused("undo", STATE, Whole::full, x -> x.undo());
    }

    private static void refusedNew() {
        Check.sentence("What is answered so changes nothing: on a new object");
        refused("undo", STATE, GossipTrain::new, x -> x.undo());
        refused("of", BELOW, GossipTrain::new, x -> x.of(0, 0));
        refused("seat", NONE, GossipTrain::new, x -> x.seat(0, 0));
        refused("know", NONE, GossipTrain::new, x -> x.know(0, 0));
        refused("leave", NONE, GossipTrain::new, x -> x.leave(0, true));
        refused("row", NONE, GossipTrain::new, x -> x.row(0, 0, 0));
        refused("hears", NONE, GossipTrain::new, x -> x.hears(0, 0));
        refused("best", NONE, GossipTrain::new, x -> x.best(0, 1));
        refused("see", NONE, GossipTrain::new, x -> x.see(0, 0, 0));
        refused("can", NONE, GossipTrain::new, x -> x.can(0, 0, 0));
        refused("odds", NO, GossipTrain::new, x -> x.odds(0, 0, 0));
        refused("mean", NO, GossipTrain::new, x -> x.mean(0, 0));
        refused("plan", NONE, GossipTrain::new, x -> x.plan(1, 0));
        refused("book", NONE, GossipTrain::new, x -> x.book(0, 0));
        refused("act", 0, GossipTrain::new, x -> x.act(0, 0, 0));
        refused("taken", NOTHING, GossipTrain::new, x -> x.taken(0, 0));
        refused("item", NOTHING, GossipTrain::new, x -> x.item(0, 0, 0));
        refused("read", NO, GossipTrain::new, x -> x.read(0, 0));
        refused("shift", NOTHING, GossipTrain::new, x -> x.shift(0, 0, 0, 0, 0));
    }

    /** A train at 9999, with a tale that would be told; no more of it is looked at, as 512 calls are all there are. */
    private static void refusedLate() {
        Check.sentence("What is answered so changes nothing: pass at its end");
        GossipTrain x = new GossipTrain();
        for (int k = 0; k < 333; k++) {
            x.pass(30);
        }
        x.one(0, 0, 0, 1);
        x.one(0, 0, 0, 0);
        for (int minute : new int[] {9990, 9999}) {
            Check.due("at " + minute, x.told(0), minute);
            Check.due("one too many", x.pass(9999 - minute + 1), STATE);
            Check.due("30", x.pass(30), STATE);
            Check.due("minute", x.told(0), minute);
            Check.due("steam", x.told(2), 0);
            Check.due("place", x.told(3), 0);
            Check.due("often", x.told(20), 0);
            Check.due("knows", x.of(1, 3), 0);
            x.know(0, 0);
            x.pass(minute == 9990 ? 9 : 0);
            x.know(0, 1);
        }
    }

    private static void asks(Supplier<GossipTrain> made) {
        for (int what = -1; what < 40; what += 3) {
            int n = what;
            same("told " + n, made, x -> x.told(n));
            same("of " + n, made, x -> x.of(1, n));
            same("on " + n, made, x -> x.on(30, n));
        }
        for (int n : new int[] {0, 1, 5, 10, 30}) {
            same("on steam " + n, made, x -> x.on(n, 0));
            same("gets " + n, made, x -> x.gets(n));
            same("hears " + n, made, x -> x.hears(n % 4, 7 - n % 8));
            same("best " + n, made, x -> x.best(n % 4, n));
            same("swap " + n, made, x -> x.swap(n));
            same("odds " + n, made, x -> x.odds(n % 4, n, 0));
            same("mean " + n, made, x -> x.mean(n, 1));
            same("judge " + n, made, x -> x.judge(1, n));
            same("trace " + n, made, x -> x.trace(n));
            same("taken " + n, made, x -> x.taken(n % 4, n % 7));
            same("count " + n, made, x -> x.count(n % 7));
            same("read " + n, made, x -> x.read(n % 6, n % 3));
        }
        for (int n = 0; n < 2; n++) {
            int part = n;
            same("favourite", made, x -> x.of(part, 5));
            same("can of a passenger", made, x -> x.can(0, 1, part));
            same("can of a tale", made, x -> x.can(1, 3, part));
            same("ends", made, x -> x.ends(part));
        }
        same("looked", made, x -> x.looked());
        same("shift of none", made, x -> x.shift(1, 0, 1, 0, 0));
        same("pass of none", made, x -> x.pass(0));
    }

    private static void asked() {
        Check.sentence("what is asked changes nothing: of some of everything");
        asks(Whole::rich);
    }

    private static void askedFull() {
        Check.sentence("what is asked changes nothing: of full rows, of a new object");
        asks(Whole::full);
        asks(GossipTrain::new);
    }

    private static void askedTwice() {
        Check.sentence("what is asked changes nothing: asked again, the same is answered");
        GossipTrain x = Whole.rich();
        for (int n = 1; n <= 10; n++) {
            int best = x.best(3, n);
            int swap = x.swap(n);
            long odds = x.odds(0, n, 0);
            long mean = x.mean(n, 0);
            int on = x.on(n, 1);
            int ends = x.ends(1);
            int can = x.can(1, 1, 0);
            Check.due("best", x.best(3, n), best);
            Check.due("swap", x.swap(n), swap);
            Check.due("odds", x.odds(0, n, 0), odds);
            Check.due("mean", x.mean(n, 0), mean);
            Check.due("on", x.on(n, 1), on);
            Check.due("ends", x.ends(1), ends);
            Check.due("can", x.can(1, 1, 0), can);
            Check.due("hears", x.hears(0, 4), x.hears(0, 4));
            Check.due("gets", x.gets(1), x.gets(1));
        }
        Check.outside("act, no such act", 0, 2, 0, act -> x.act(0, act, LEAST));
    }
}
