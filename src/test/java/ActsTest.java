/** Promises 29 to 32. */
public final class ActsTest {
    public static void main(String[] args) {
        bodies();
        wrapping();
        refusals();
        taken();
        count();
        Check.end("ActsTest");
    }

    private static void bodies() {
        // number and v are unlike for each, so that one does not stand for the other
        GossipTrain x = new GossipTrain();
        for (int p = 0; p < 6; p++) {
            x.one(p + 1, (p * 3 + 4) % 10, 0, 0);
        }
        GossipTrain y = new GossipTrain();
        y.one(1, 5, 0, 0);
        y.one(0, 6, 0, 0);
        played(y, 1, 0, 7, 8, 10);
        played(y, 1, 1, 7, 2, 11, 10);
        played(y, 1, 2, 7, 4, 12, 11, 10);
        // GIRL 0, v 4
        played(x, 0, 0, 7, 7, 10);
        played(x, 0, 1, 7, 3 ^ 6, 20, 11, 10);
        played(x, 0, 2, 7, (3 ^ 6) * 2, 12, 20, 11, 10);
        // GUARD 1, v 7
        played(x, 1, 0, 7, 22, 30, 10);
        played(x, 1, 1, 7, 15, 11, 30, 10);
        played(x, 1, 2, 7, 30, 12, 11, 30, 10);
        // SCANDAL 2, v 0
        played(x, 2, 0, 7, 9, 10);
        played(x, 2, 1, 7, 9, 11, 10);
        played(x, 2, 2, 7, 21, 40, 12, 11, 10, 11, 10);
        // TRAPPIST 3, v 3
        played(x, 3, 0, 7, -10, 50, 10);
        played(x, 3, 1, 7, (-11 - 3) ^ 6, 51, 20, 11, 50, 10);
        played(x, 3, 2, 7, ((-11 - 3) ^ 6) * 2, 12, 51, 20, 11, 50, 10);
        // VICAR 4, v 6
        played(x, 4, 0, 7, 25, 30, 10);
        played(x, 4, 1, 7, 19, 11, 30, 10);
        played(x, 4, 2, 7, (3 * 3 + 4 - 6) * 2, 60, 12, 11, 30, 10);
        // TOLD 5, v 9
        played(x, 5, 0, 7, 12 ^ 9, 71, 10);
        played(x, 5, 1, 7, (12 ^ 9) - 9 + 7, 70, 11, 71, 10, 10);
        played(x, 5, 2, 7, ((12 ^ 9) - 9 + 7) * 2 + (6 ^ 9) - 9 + 7,
            40, 12, 70, 11, 71, 10, 10, 70, 11, 71, 10, 10);
    }

    private static void played(GossipTrain x, int person, int act, int n, int want, int... trace) {
        String call = "act(" + person + ", " + act + ", " + n + ")";
        Check.due(call, x.act(person, act, n), want);
        Check.due(call + " count", x.count(6), trace.length);
        for (int k = 0; k < trace.length; k++) {
            Check.due(call + " trace " + k, x.trace(k), trace[k]);
        }
        Check.due(call + " behind", x.trace(trace.length), -1);
        Check.due(call + " ahead", x.trace(-1), -1);
    }

    private static void wrapping() {
        GossipTrain x = new GossipTrain();
        x.one(2, 9, 0, 0);
        x.one(2, 9, 0, 0);
        int big = Integer.MAX_VALUE;
        Check.due("hums wraps", x.act(1, 0, big), big * 3 + 1);
        Check.due("leans wraps", x.act(1, 1, Integer.MIN_VALUE), Integer.MIN_VALUE * 3 + 1 - 9);
        Check.due("tells wraps", x.act(1, 2, big), (big * 3 + 1 - 9) * 2);
    }

    private static void refusals() {
        GossipTrain x = Check.ofKinds(6);
        x.act(0, 2, 1);
        Check.due("ran", x.count(6), 12);
        Check.due("asked again", x.trace(11), 10);
        Check.due("person 1", x.act(1, 0, 5), 0);
        Check.due("no trace", x.trace(0), -1);
        Check.due("none ran", x.count(6), 0);
        x.act(0, 0, 1);
        Check.due("person -1", x.act(-1, 0, 5), 0);
        Check.due("no trace", x.trace(0), -1);
        x.act(0, 0, 1);
        Check.due("act 3", x.act(0, 3, 5), 0);
        Check.due("no trace", x.trace(0), -1);
        x.act(0, 0, 1);
        Check.due("act -1", x.act(0, -1, 5), 0);
        Check.due("none ran", x.count(6), 0);
        x.act(0, 0, 1);
        Check.due("trace 20", x.trace(20), -1);
        Check.due("trace highest", x.trace(Integer.MAX_VALUE), -1);
        Check.due("trace lowest", x.trace(Integer.MIN_VALUE), -1);
    }

    private static void taken() {
        int[] above = {-1, 0, 0, 0, 1, 2, 3};
        for (int kind = 0; kind <= 6; kind++) {
            GossipTrain x = Check.ofKinds(kind);
            for (int k = 0; k <= 6; k++) {
                boolean is = k == 0 || k == kind || k == above[kind];
                Check.due("kind " + kind + " as " + k, x.taken(0, k), is ? kind : -12);
            }
            Check.due("k 7", x.taken(0, 7), -2);
            Check.due("k -1", x.taken(0, -1), -2);
            Check.due("BAD ahead of NOTHING", x.taken(1, 7), -2);
            Check.due("person 1", x.taken(1, 0), -11);
            Check.due("person -1", x.taken(-1, 6), -11);
        }
    }

    private static void count() {
        GossipTrain x = Check.ofKinds(0, 1, 2);
        x.see(0, 0, 0);
        x.see(0, 0, 0);
        x.plan(0, 0);
        x.book(0, 0);
        x.book(0, 0);
        x.book(0, 0);
        x.book(0, 0);
        Check.due("branch", Check.branch(x, "slope 1"), 0);
        Check.due("branch", Check.branch(x, "slope 1"), 1);
        Check.feed(x, "slope");
        x.act(1, 2, 0);
        int[] want = {3, 2, 2, 1, 4, 5, 4};
        for (int what = 0; what < want.length; what++) {
            Check.due("count " + what, x.count(what), want[what]);
        }
        Check.due("count -1", x.count(-1), -2);
        Check.due("count 7", x.count(7), -2);
    }
}
