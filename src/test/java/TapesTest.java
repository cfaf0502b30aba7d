/** Promises 33 to 36. */
public final class TapesTest {
    public static void main(String[] args) {
        tape();
        item();
        read();
        shift();
        Check.end("TapesTest");
    }

    private static void tape() {
        GossipTrain x = new GossipTrain();
        Check.due("tape -1", x.tape(-1, 0, 1), -1);
        Check.due("tape 6", x.tape(6, 0, 1), -1);
        Check.due("NONE ahead of BAD", x.tape(6, 5, 61), -1);
        Check.due("sort -2", x.tape(0, -2, 1), -2);
        Check.due("sort 5", x.tape(0, 5, 1), -2);
        Check.due("BAD ahead of SIZE", x.tape(0, 5, -1), -2);
        Check.due("n 61", x.tape(0, 0, 61), -2);
        Check.due("n -1", x.tape(0, 0, -1), -14);
        Check.due("n lowest", x.tape(0, 0, Integer.MIN_VALUE), -14);
        Check.due("refused changes nothing", x.item(0, 0, 1), -11);
        for (int sort = 0; sort < 5; sort++) {
            Check.due("60 items", x.tape(sort, sort, 60), 1);
            Check.due("first", x.read(sort, 0), 0);
            Check.due("last", x.read(sort, 59), 0);
            Check.due("behind", x.read(sort, 60), GossipTrain.NO);
        }
        Check.due("no items", x.tape(5, 3, 0), 1);
        Check.due("no place", x.item(5, 0, 1), -13);
        x.item(3, 0, 5);
        x.item(3, 59, 5);
        Check.due("refused keeps", x.tape(3, 3, 61), -2);
        Check.due("kept", x.read(3, 59), 5);
        Check.due("anew", x.tape(3, 2, 60), 1);
        Check.due("all 0", x.read(3, 0), 0);
        Check.due("all 0", x.read(3, 59), 0);
        x.item(3, 1, 9);
        Check.due("holds nothing", x.tape(3, -1, -5), 1);
        Check.due("nothing there", x.read(3, 1), GossipTrain.NO);
        Check.due("n does not matter", x.tape(3, -1, 1000), 1);
        Check.due("nothing", x.item(3, 0, 0), -11);
        x.tape(3, 3, 2);
        Check.due("0 after nothing", x.read(3, 1), 0);
    }

    private static void item() {
        GossipTrain x = new GossipTrain();
        for (int sort = 0; sort < 5; sort++) {
            x.tape(sort, sort, 3);
        }
        Check.due("tape -1", x.item(-1, 0, 0), -1);
        Check.due("tape 6", x.item(6, 0, 0), -1);
        Check.due("nothing", x.item(5, -1, 0), -11);
        Check.due("place -1", x.item(0, -1, 0), -13);
        Check.due("place 3", x.item(0, 3, 0), -13);
        Check.due("place highest", x.item(0, Integer.MAX_VALUE, 0), -13);
        long[] given = {0, 1, -1, 127, 128, 255, 256, 32767, 32768, 65536, 1L << 31, 1L << 32, -129,
            Long.MAX_VALUE, Long.MIN_VALUE, 0x123456789abcdefL};
        for (long v : given) {
            for (int sort = 0; sort < 5; sort++) {
                Check.due("item", x.item(sort, 2, v), 1);
            }
            Check.due("byte of " + v, x.read(0, 2), (byte) v);
            Check.due("short of " + v, x.read(1, 2), (short) v);
            Check.due("int of " + v, x.read(2, 2), (int) v);
            Check.due("long of " + v, x.read(3, 2), v);
            Check.due("boolean of " + v, x.read(4, 2), v != 0 ? 1 : 0);
            Check.due("beside", x.read(3, 1), 0);
        }
    }

    private static void read() {
        GossipTrain x = new GossipTrain();
        x.tape(0, 0, 2);
        Check.due("tape -1", x.read(-1, 0), GossipTrain.NO);
        Check.due("tape 6", x.read(6, 0), GossipTrain.NO);
        Check.due("nothing", x.read(1, 0), GossipTrain.NO);
        Check.due("place -1", x.read(0, -1), GossipTrain.NO);
        Check.due("place 2", x.read(0, 2), GossipTrain.NO);
        Check.due("there", x.read(0, 1), 0);
    }

    private static void shift() {
        GossipTrain x = new GossipTrain();
        x.tape(0, 1, 5);
        x.tape(1, 1, 3);
        x.tape(2, 2, 5);
        x.tape(3, 1, 0);
        fill(x);
        Check.due("tape -1", x.shift(-1, 0, 0, 0, 1), -1);
        Check.due("tape 6", x.shift(6, 0, 0, 0, 1), -1);
        Check.due("other -1", x.shift(0, 0, -1, 0, 1), -1);
        Check.due("other 6", x.shift(5, 0, 6, 0, 1), -1);
        Check.due("from nothing", x.shift(5, 0, 2, 0, 1), -11);
        Check.due("to nothing", x.shift(2, -1, 5, 0, 1), -11);
        Check.due("nothing to itself", x.shift(5, 0, 5, 0, 0), -11);
        Check.due("unlike", x.shift(0, -1, 2, 0, 1), -12);
        Check.due("n -1", x.shift(0, 0, 1, 0, -1), -13);
        Check.due("i -1", x.shift(0, -1, 1, 0, 1), -13);
        Check.due("j -1", x.shift(0, 0, 1, -1, 1), -13);
        Check.due("beyond the one", x.shift(0, 3, 1, 0, 3), -13);
        Check.due("beyond the other", x.shift(0, 0, 1, 1, 3), -13);
        Check.due("i beyond, of 0", x.shift(0, 6, 1, 0, 0), -13);
        Check.due("j beyond, of 0", x.shift(0, 0, 1, 4, 0), -13);
        Check.due("highest", x.shift(0, Integer.MAX_VALUE, 1, 0, Integer.MAX_VALUE), -13);
        Check.due("highest i", x.shift(0, Integer.MAX_VALUE, 1, 0, 1), -13);
        Check.due("highest n", x.shift(0, 1, 1, 1, Integer.MAX_VALUE), -13);
        items(x, 0, 11, 12, 13, 14, 15);
        items(x, 1, 0, 0, 0);
        Check.due("0 at the ends", x.shift(0, 5, 1, 3, 0), 0);
        Check.due("0 of none", x.shift(3, 0, 3, 0, 0), 0);
        Check.due("three", x.shift(0, 2, 1, 0, 3), 3);
        items(x, 1, 13, 14, 15);
        items(x, 0, 11, 12, 13, 14, 15);
        Check.due("up", x.shift(0, 0, 0, 1, 4), 4);
        items(x, 0, 11, 11, 12, 13, 14);
        fill(x);
        Check.due("down", x.shift(0, 2, 0, 0, 3), 3);
        items(x, 0, 13, 14, 15, 14, 15);
        Check.due("all", x.shift(0, 0, 0, 0, 5), 5);
        items(x, 0, 13, 14, 15, 14, 15);
    }

    private static void fill(GossipTrain x) {
        for (int k = 0; k < 5; k++) {
            x.item(0, k, 11 + k);
        }
    }

    private static void items(GossipTrain x, int tape, int... want) {
        for (int k = 0; k < want.length; k++) {
            Check.due("tape " + tape + " item " + k, x.read(tape, k), want[k]);
        }
    }
}
