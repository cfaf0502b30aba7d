/** 'Terms', part 3, on TAPES: a method for each sentence that names a bound. */
public final class Terms3BoundsTest {
    private static final long NO = GossipTrain.NO;

    public static void main(String[] args) {
        tapes();
        nothingAtFirst();
        bytes();
        shorts();
        ints();
        longs();
        booleans();
        judgedFirst();
        judgedFromPlace();
        judgedNone();
        judgedNoPassengers();
        judgedEnds();
        judgedBelow();
        judgedNothing();
        judgedWholeShorts();
        hostNothing();
        hostCast();
        hostPlace();
        hostSize();
        Check.end("Terms3BoundsTest");
    }

    private static void tapes() {
        Check.sentence("TAPES 0 .. 5");
        GossipTrain x = new GossipTrain();
        Check.each("tape", 0, 5, 1, t -> x.tape(t, 3, t + 1));
        Check.each("item", 0, 5, 1, t -> x.item(t, t, 100 + t));
        Check.each("read", 0, 5, 100, t -> x.read(t, t) - t);
        Check.each("behind", 0, 5, NO, t -> x.read(t, t + 1));
        Check.each("shift", 0, 5, 1, t -> x.shift(t, t, 5, t, 1));
        Check.each("shifted", 0, 5, 100, t -> x.read(5, t) - t);
        Check.outside("tape", 0, 5, -1, t -> x.tape(t, 0, 1));
        Check.outside("item", 0, 5, -1, t -> x.item(t, 0, 1));
        Check.outside("read", 0, 5, NO, t -> x.read(t, 0));
        Check.outside("shift from", 0, 5, -1, t -> x.shift(t, 0, 0, 0, 1));
        Check.outside("shift to", 0, 5, -1, t -> x.shift(0, 0, t, 0, 1));
        Check.outside("judge", 0, 5, -1, t -> x.judge(t, 0));
    }

    private static void nothingAtFirst() {
        Check.sentence("hold nothing (at first)");
        GossipTrain x = new GossipTrain();
        Check.each("read", 0, 5, NO, t -> x.read(t, 0));
        Check.each("item", 0, 5, -11, t -> x.item(t, 0, 0));
        Check.each("shift", 0, 5, -11, t -> x.shift(t, 0, t, 0, 0));
        x.one(0, 0, 0, 0);
        Check.each("judge", 0, 5, 100, t -> x.judge(t, 0));
    }

    /** What an item of a sort is behind it was given each of the numbers. */
    private static void items(int sort, long[] given, long[] want) {
        GossipTrain x = new GossipTrain();
        Check.due("a tape", x.tape(sort, sort, 60), 1);
        for (int k = 0; k < given.length; k++) {
            for (int i : new int[] {0, 59}) {
                Check.due("item " + i, x.item(sort, i, given[k]), 1);
                Check.due("sort " + sort + " of " + given[k], x.read(sort, i), want[k]);
            }
            Check.due("beside the first", x.read(sort, 1), 0);
            Check.due("beside the last", x.read(sort, 58), 0);
        }
    }

    private static void bytes() {
        Check.sentence("a row of 0 bytes");
        items(0, new long[] {0, 1, -1, 127, 128, -128, -129, 255, 256, 1L << 32, Long.MAX_VALUE, Long.MIN_VALUE},
            new long[] {0, 1, -1, 127, -128, -128, 127, -1, 0, 0, -1, 0});
    }

    private static void shorts() {
        Check.sentence("1 shorts");
        items(1, new long[] {0, 1, -1, 32767, 32768, -32768, -32769, 65535, 65536, 70000, Long.MAX_VALUE, Long.MIN_VALUE},
            new long[] {0, 1, -1, 32767, -32768, -32768, 32767, -1, 0, 4464, -1, 0});
    }

    private static void ints() {
        Check.sentence("2 ints");
        long big = Integer.MAX_VALUE;
        items(2, new long[] {0, 1, -1, big, big + 1, -big - 1, -big - 2, 1L << 32, (1L << 32) + 5, Long.MAX_VALUE,
            Long.MIN_VALUE}, new long[] {0, 1, -1, big, -big - 1, -big - 1, big, 0, 5, -1, 0});
    }

    private static void longs() {
        Check.sentence("3 longs");
        long[] all = {0, 1, -1, Integer.MAX_VALUE + 1L, Integer.MIN_VALUE - 1L, Long.MAX_VALUE, Long.MIN_VALUE};
        items(3, all, all);
    }

    private static void booleans() {
        Check.sentence("4 booleans (items 0, 1)");
        items(4, new long[] {0, 1, -1, 2, 256, 1L << 32, 0, Long.MAX_VALUE, Long.MIN_VALUE},
            new long[] {0, 1, 1, 1, 1, 1, 0, 1, 1});
    }

    private static GossipTrain sixWho() {
        GossipTrain x = new GossipTrain();
        for (int p = 0; p < 6; p++) {
            x.one(0, 0, 0, 10 * p + 5);
        }
        return x;
    }

    /** A row of shorts as long as n, that tells from a place on what six know, as far as it goes. */
    private static void tell(GossipTrain x, int tape, int n, int from) {
        x.tape(tape, 1, n);
        for (int p = 0; p < 6; p++) {
            x.item(tape, from + p, 10 * p + 5);
        }
    }

    private static void judgedFirst() {
        Check.sentence("JUDGED: the first that is otherwise (counted from 0 from that place on)");
        GossipTrain x = sixWho();
        tell(x, 2, 20, 9);
        for (int p = 5; p >= 0; p--) {
            x.item(2, 9 + p, 10 * p + 4);
            Check.due("otherwise from " + p, x.judge(2, 9), p);
        }
        for (int p = 0; p < 6; p++) {
            Check.due("otherwise still from " + p, x.judge(2, 9), p);
            x.item(2, 9 + p, 10 * p + 5);
        }
        x.know(3, 0);
        Check.due("by what one knows", x.judge(2, 9), 3);
    }

    private static void judgedFromPlace() {
        Check.sentence("told by a row of shorts, from a place on, one by one");
        GossipTrain x = sixWho();
        x.tape(0, 1, 60);
        for (int from : new int[] {0, 1, 53, 54}) {
            tell(x, 0, 60, from);
            Check.due("so from " + from, x.judge(0, from), -5);
            Check.due("not a place ahead", x.judge(0, from - 1), from == 0 ? 100 : 0);
            Check.due("nor behind", x.judge(0, from + 1), 0);
        }
        tell(x, 0, 6, 0);
        Check.due("just as long", x.judge(0, 0), -5);
    }

    private static void judgedNone() {
        Check.sentence("JUDGED: -5: none");
        GossipTrain x = new GossipTrain();
        x.tape(0, 1, 6);
        for (int p = 0; p < 6; p++) {
            x.one(0, 0, 0, 255 - p);
            Check.due("otherwise", x.judge(0, 0), p);
            x.item(0, p, 255 - p);
            Check.due("none of " + (p + 1), x.judge(0, 0), -5);
        }
        x.leave(4, true);
        Check.due("OFF is not otherwise", x.judge(0, 0), -5);
    }

    private static void judgedNoPassengers() {
        Check.sentence("or there are no PASSENGERS (wherever the place is, also if the TAPE holds nothing)");
        GossipTrain x = new GossipTrain();
        int[] places = {0, -1, 1, 2, 3, Check.LEAST, Check.GREATEST};
        for (int place : places) {
            Check.due("nothing, from " + place, x.judge(5, place), -5);
        }
        x.tape(5, 1, 2);
        for (int place : places) {
            Check.due("two shorts, from " + place, x.judge(5, place), -5);
        }
        x.tape(5, 1, 0);
        Check.due("no shorts", x.judge(5, 0), -5);
        x.image();
        x.one(0, 0, 0, 0);
        Check.due("with one", x.judge(5, 0), 100);
        x.undo();
        Check.due("without again", x.judge(5, 0), -5);
    }

    private static void judgedEnds() {
        Check.sentence("100 and how many were looked at, if the row ends ahead of that");
        GossipTrain x = sixWho();
        for (int n = 0; n < 6; n++) {
            tell(x, 0, n, 0);
            Check.due("a row of " + n, x.judge(0, 0), 100 + n);
        }
        tell(x, 0, 60, 55);
        Check.due("five from 55", x.judge(0, 55), 105);
        tell(x, 0, 60, 59);
        Check.due("one from 59", x.judge(0, 59), 101);
        Check.due("none from 60", x.judge(0, 60), 100);
        Check.due("none from 61", x.judge(0, 61), 100);
        Check.due("none from far", x.judge(0, Check.GREATEST), 100);
        Check.due("none from nearly so far", x.judge(0, Check.GREATEST - 3), 100);
        tell(x, 0, 3, 0);
        x.item(0, 2, 0);
        Check.due("otherwise ahead of the end", x.judge(0, 0), 2);
    }

    private static void judgedBelow() {
        Check.sentence("(or the place is below 0");
        GossipTrain x = sixWho();
        tell(x, 0, 60, 0);
        for (int place : new int[] {-1, -2, -6, -60, Check.LEAST, Check.LEAST + 1}) {
            Check.due("from " + place, x.judge(0, place), 100);
        }
    }

    private static void judgedNothing() {
        Check.sentence("or the TAPE holds nothing)");
        GossipTrain x = sixWho();
        for (int place : new int[] {0, 1, -1, Check.LEAST, Check.GREATEST}) {
            Check.due("at first, from " + place, x.judge(3, place), 100);
        }
        tell(x, 3, 6, 0);
        Check.due("all so", x.judge(3, 0), -5);
        x.tape(3, -1, 6);
        Check.due("nothing again", x.judge(3, 0), 100);
    }

    private static void judgedWholeShorts() {
        Check.sentence("What each KNOWS, told by a row of shorts (a whole short, not its lowest byte)");
        GossipTrain x = new GossipTrain();
        x.one(0, 0, 0, 255);
        x.tape(0, 1, 1);
        x.item(0, 0, -1);
        Check.due("-1 is not 255", x.judge(0, 0), 0);
        x.item(0, 0, 511);
        Check.due("511 is not", x.judge(0, 0), 0);
        x.item(0, 0, 65536 + 255);
        Check.due("255 is", x.judge(0, 0), -5);
    }

    private static void hostNothing() {
        Check.sentence("NOTHING (-11): nothing is there");
        GossipTrain x = new GossipTrain();
        x.tape(0, 0, 3);
        Check.due("item", x.item(1, 0, 5), -11);
        Check.due("item at no place", x.item(1, -1, 5), -11);
        Check.due("shift from", x.shift(1, 0, 0, 0, 1), -11);
        Check.due("shift to", x.shift(0, 0, 1, 0, 1), -11);
        Check.due("shift of none", x.shift(1, 0, 1, 0, 0), -11);
        Check.due("taken", x.taken(0, 0), -11);
        x.tape(0, -1, 0);
        Check.due("item of what held a row", x.item(0, 0, 5), -11);
        x.tape(0, 0, 0);
        Check.due("an empty row is something", x.shift(0, 0, 0, 0, 0), 0);
    }

    private static void hostCast() {
        Check.sentence("CAST (-12): another sort or KIND");
        GossipTrain x = new GossipTrain();
        for (int sort = 0; sort < 5; sort++) {
            x.tape(sort, sort, 2);
        }
        for (int from = 0; from < 5; from++) {
            for (int to = 0; to < 5; to++) {
                Check.due("shift " + from + ", " + to, x.shift(from, 0, to, 0, 2), from == to ? 2 : -12);
                Check.due("of none " + from + ", " + to, x.shift(from, 0, to, 0, 0), from == to ? 0 : -12);
            }
            Check.due("judge " + from, x.judge(from, 0), from == 1 ? -5 : -12);
        }
        x.one(5, 0, 0, 0);
        Check.due("taken", x.taken(0, 1), -12);
    }

    private static void hostPlace() {
        Check.sentence("PLACE (-13): no such place");
        GossipTrain x = new GossipTrain();
        for (int n = 0; n <= 60; n += 20) {
            int behind = n;
            x.tape(0, 2, n);
            Check.outside("item of " + n, 0, n - 1, -13, i -> x.item(0, i, 1));
            Check.outside("shift from, " + n, 0, n, -13, i -> x.shift(0, i, 0, 0, 0));
            Check.outside("shift to, " + n, 0, n, -13, j -> x.shift(0, 0, 0, j, 0));
            Check.outside("shift of, " + n, 0, n, -13, many -> x.shift(0, 0, 0, 0, many));
            Check.due("none at the end", x.shift(0, behind, 0, behind, 0), 0);
            Check.due("one at the end", x.shift(0, behind, 0, 0, 1), -13);
        }
    }

    private static void hostSize() {
        Check.sentence("SIZE (-14): a size below 0");
        GossipTrain x = new GossipTrain();
        x.tape(0, 1, 2);
        for (int sort = 0; sort < 5; sort++) {
            Check.due("-1 of " + sort, x.tape(0, sort, -1), -14);
            Check.due("the least of " + sort, x.tape(0, sort, Check.LEAST), -14);
            Check.due("0 of " + sort, x.tape(1, sort, 0), 1);
        }
        Check.due("as it was", x.read(0, 1), 0);
        Check.due("nothing has no size", x.tape(0, -1, -1), 1);
        Check.due("holds nothing", x.read(0, 0), NO);
    }
}
