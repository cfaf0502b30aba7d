/** Promises 26 to 28. */
public final class JudgeImageTest {
    public static void main(String[] args) {
        judge();
        image();
        imageOfBranches();
        Check.end("JudgeImageTest");
    }

    private static void judge() {
        GossipTrain x = new GossipTrain();
        Check.due("tape -1", x.judge(-1, 0), -1);
        Check.due("tape 6", x.judge(6, 0), -1);
        Check.due("no one", x.judge(0, 0), -5);
        Check.due("no one, below", x.judge(0, -1), -5);
        Check.due("no one, far", x.judge(0, Integer.MAX_VALUE), -5);
        x.tape(1, 0, 5);
        x.tape(2, 2, 5);
        x.tape(3, 3, 5);
        x.tape(4, 4, 5);
        for (int tape = 1; tape <= 4; tape++) {
            Check.due("no shorts", x.judge(tape, 0), -12);
        }
        x.one(0, 0, 0, 7);
        Check.due("by one, holds nothing", x.judge(0, 0), 100);
        x.tape(0, 1, 1);
        Check.due("by one, otherwise", x.judge(0, 0), 0);
        x.item(0, 0, 7);
        Check.due("by one, so", x.judge(0, 0), -5);
        Check.due("by one, at the end", x.judge(0, 1), 100);
        x.tape(0, -1, 0);
        x.one(0, 0, 0, 255);
        x.one(0, 0, 0, 0);
        Check.due("holds nothing", x.judge(0, 0), 100);
        Check.due("holds nothing, below", x.judge(0, -1), 100);
        Check.due("no shorts still", x.judge(1, -1), -12);
        x.tape(0, 1, 5);
        Check.due("the first", x.judge(0, 0), 0);
        x.item(0, 0, 7);
        Check.due("the second", x.judge(0, 0), 1);
        x.item(0, 1, 255);
        Check.due("all so", x.judge(0, 0), -5);
        x.item(0, 2, 1);
        Check.due("the third", x.judge(0, 0), 2);
        Check.due("below", x.judge(0, -1), 100);
        Check.due("lowest", x.judge(0, Integer.MIN_VALUE), 100);
        Check.due("at the end", x.judge(0, 5), 100);
        Check.due("beyond", x.judge(0, 6), 100);
        Check.due("highest", x.judge(0, Integer.MAX_VALUE), 100);
        x.item(0, 4, 7);
        Check.due("ends behind one", x.judge(0, 4), 101);
        x.item(0, 3, 7);
        x.item(0, 4, 255);
        Check.due("ends behind two", x.judge(0, 3), 102);
        x.item(0, 4, 254);
        Check.due("otherwise ahead of the end", x.judge(0, 3), 1);
        x.item(0, 2, 7);
        x.item(0, 3, 255);
        x.item(0, 4, 0);
        Check.due("just to the end", x.judge(0, 2), -5);
        x.tape(0, 1, 0);
        Check.due("no items", x.judge(0, 0), 100);
    }

    private static void image() {
        GossipTrain x = new GossipTrain();
        Check.due("none yet", x.undo(), -3);
        Check.due("of no one", x.image(), 0);
        x.one(6, 2, 1, 3);
        x.one(1, 3, 2, 5);
        Check.due("back to no one", x.undo(), 0);
        Check.due("no one", x.count(0), 0);
        Check.due("again", x.undo(), 0);
        x.one(6, 2, 1, 3);
        x.row(0, 1, 4);
        x.one(1, 3, 2, 5);
        x.leave(1, true);
        x.set(3, 0, 8);
        x.set(3, 1, 2);
        x.pass(3);
        x.see(0, 1, 2);
        x.plan(0, 0);
        x.book(1, 5);
        int[] was = state(x);
        Check.due("of two", x.image(), 2);
        x.one(0, 0, 0, 0);
        x.row(0, 1, 9);
        x.row(0, 2, 9);
        x.leave(1, false);
        x.leave(0, true);
        x.seat(0, 0);
        x.seat(1, 3);
        x.know(0, 255);
        x.know(1, 255);
        x.set(3, 0, 0);
        x.set(3, 1, 50);
        x.pass(7);
        x.see(0, 1, 3);
        x.plan(1, 0);
        x.book(-1, 0);
        x.tape(0, 1, 3);
        Check.feed(x, "sl");
        x.act(0, 2, 5);
        Check.due("back to two", x.undo(), 2);
        same(was, state(x));
        Check.due("row 1", x.row(0, 1, 4), 4);
        Check.due("row 2", x.row(0, 2, 0), 0);
        Check.due("text is none of it", x.count(5), 2);
        Check.due("tapes are none of it", x.read(0, 2), 0);
        Check.due("the trace is none of it", x.count(6), 12);
        x.pass(30);
        Check.due("again", x.undo(), 2);
        same(was, state(x));
        // a number that was another's before the undo starts anew
        x.leave(0, true);
        x.one(6, 1, 1, 1);
        x.leave(2, true);
        x.row(2, 3, 9);
        x.undo();
        Check.due("the third anew", x.one(6, 1, 1, 1), 2);
        Check.due("not OFF", x.of(2, 4), 0);
        Check.due("row 0", x.row(2, 3, 1), 0);
        Check.due("a newer image", x.image(), 3);
        x.pass(2);
        Check.due("the newer", x.undo(), 3);
        Check.due("its minute", x.told(0), 3);
    }

    private static int[] state(GossipTrain x) {
        int[] all = new int[80];
        int at = 0;
        for (int what = 0; what < 5; what++) {
            all[at++] = x.told(what);
        }
        for (int t = 0; t < 8; t++) {
            all[at++] = x.told(10 + t);
            all[at++] = x.told(20 + t);
            all[at++] = x.told(30 + t);
        }
        for (int p = 0; p < 2; p++) {
            for (int what = 0; what < 18; what++) {
                all[at++] = x.of(p, what);
            }
        }
        for (int what = 0; what < 5; what++) {
            all[at++] = x.count(what);
        }
        all[at++] = x.looked();
        all[at++] = x.ends(0);
        all[at++] = x.ends(1);
        all[at++] = x.can(0, 0, 0);
        all[at++] = x.can(1, 1, 0);
        return all;
    }

    private static void same(int[] was, int[] is) {
        for (int k = 0; k < was.length; k++) {
            Check.due("undone state " + k, is[k], was[k]);
        }
    }

    private static void imageOfBranches() {
        GossipTrain x = new GossipTrain();
        x.image();
        Check.due("branch 0", Check.branch(x, "slope 7"), 0);
        x.undo();
        Check.due("none holds", x.told(1), 5);
        Check.due("yet it is there", x.count(1), 1);
        Check.due("branch 1", Check.branch(x, "slope 8"), 1);
        x.image();
        Check.due("branch 2", Check.branch(x, "slope 9;warm 5 p=0"), 2);
        x.undo();
        Check.due("1 holds", x.told(1), 8);
        Check.due("fault", Check.branch(x, "slope 6;"), -18);
        Check.due("1 holds still", x.told(1), 8);
        Check.due("three", x.count(1), 3);
    }
}
