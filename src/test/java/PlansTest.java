/** Promises 22 to 25. */
public final class PlansTest {
    public static void main(String[] args) {
        plan();
        ends();
        book();
        looked();
        Check.end("PlansTest");
    }

    private static void plan() {
        GossipTrain x = Check.ofKinds(0, 1);
        Check.due("what -2", x.plan(-2, 0), -1);
        Check.due("what 4", x.plan(4, 0), -1);
        Check.due("person 2", x.plan(1, 2), -1);
        Check.due("person -1", x.plan(2, -1), -1);
        Check.due("person 2, carriage", x.plan(3, 20), -1);
        Check.due("carriage 4", x.plan(3, 14), -1);
        Check.due("below 0", x.plan(3, -1), -1);
        Check.due("lowest", x.plan(3, Integer.MIN_VALUE), -1);
        Check.due("highest", x.plan(3, Integer.MAX_VALUE), -1);
        Check.due("refused changes nothing", x.count(3), 0);
        Check.due("0, n does not matter", x.plan(0, -77), 1);
        Check.due("0, n does not matter", x.plan(0, Integer.MAX_VALUE), 2);
        Check.due("1", x.plan(1, 1), 3);
        Check.due("2", x.plan(2, 0), 4);
        Check.due("3", x.plan(3, 13), 5);
        Check.due("3", x.plan(3, 0), 6);
        for (int k = 7; k <= 10; k++) {
            Check.due("to ten", x.plan(0, 0), k);
        }
        Check.due("FULL", x.plan(0, 0), -4);
        Check.due("NONE ahead of FULL", x.plan(1, 2), -1);
        Check.due("count", x.count(3), 10);
        Check.due("empty then", x.plan(-1, 99), 0);
        Check.due("count", x.count(3), 0);
        Check.due("anew", x.plan(3, 3), 1);
    }

    private static void ends() {
        GossipTrain x = new GossipTrain();
        x.one(0, 0, 0, 1);
        x.one(1, 9, 1, 2);
        Check.due("what -1", x.ends(-1), -1);
        Check.due("what 2", x.ends(2), -1);
        Check.due("empty plan: place", x.ends(0), 0);
        Check.due("empty plan: steam", x.ends(1), 0);
        x.plan(0, 0);
        // 6 and 15
        Check.due("a minute: place", x.ends(0), 4);
        Check.due("a minute: steam", x.ends(1), 1);
        x.plan(1, 1);
        x.plan(0, 0);
        // 5 more
        Check.due("off: place", x.ends(0), 5);
        Check.due("off: steam", x.ends(1), 1);
        x.plan(2, 1);
        x.plan(3, 10);
        x.plan(0, 0);
        // 4, then 14 by what it knew itself
        Check.due("there: place", x.ends(0), 8);
        Check.due("there: steam", x.ends(1), 4);
        x.plan(0, 0);
        // both know both: 4 by the one, 1 told twice then; 11 by the girl
        Check.due("heard: place", x.ends(0), x.ends(1) >= 0 ? byHand(x, 0) : -9);
        Check.due("heard: steam", x.ends(1), byHand(x, 1));
        Check.due("asked changes nothing", x.told(0) + x.told(3) + x.of(1, 4) + x.of(1, 2), 1);
        x.plan(-1, 0);
        Check.due("empty again", x.ends(0), 0);
    }

    private static int byHand(GossipTrain x, int what) {
        x.image();
        x.pass(1);
        x.leave(1, true);
        x.pass(1);
        x.leave(1, false);
        x.seat(1, 0);
        x.pass(1);
        x.pass(1);
        int got = what == 0 ? x.told(3) : x.told(2);
        x.undo();
        return got;
    }

    private static void book() {
        GossipTrain x = Check.ofKinds(0, 1);
        Check.due("person -2", x.book(-2, 0), -1);
        Check.due("person 2", x.book(2, 0), -1);
        Check.due("NONE ahead of BAD", x.book(2, 256), -1);
        Check.due("knows -1", x.book(0, -1), -2);
        Check.due("knows 256", x.book(0, 256), -2);
        Check.due("refused changes nothing", x.count(4), 0);
        for (int k = 1; k <= 8; k++) {
            Check.due("book " + k, x.book(k % 2, k == 1 ? 0 : 255), k);
        }
        Check.due("FULL", x.book(0, 0), -4);
        Check.due("NONE ahead of FULL", x.book(2, 0), -1);
        Check.due("BAD ahead of FULL", x.book(0, 256), -2);
        Check.due("count", x.count(4), 8);
        Check.due("empty then", x.book(-1, 1000), 0);
        Check.due("count", x.count(4), 0);
        Check.due("anew", x.book(0, 255), 1);
    }

    private static void looked() {
        GossipTrain x = Check.ofKinds(0, 1);
        Check.due("empty", x.looked(), -5);
        x.book(0, 255);
        x.book(1, 255);
        x.book(0, 255);
        Check.due("all so", x.looked(), -5);
        x.know(1, 254);
        Check.due("the second", x.looked(), 1);
        x.know(0, 0);
        Check.due("the first", x.looked(), 0);
        x.know(0, 255);
        x.know(1, 255);
        x.book(1, 0);
        Check.due("the fourth", x.looked(), 3);
        x.book(-1, 0);
        Check.due("empty again", x.looked(), -5);
        for (int k = 0; k < 8; k++) {
            x.book(0, k < 7 ? 255 : 1);
        }
        Check.due("the eighth", x.looked(), 7);
    }
}
