/** Promises 16 and 17. */
public final class SeatsTest {
    public static void main(String[] args) {
        best();
        bestBySteam();
        swap();
        Check.end("SeatsTest");
    }

    private static void best() {
        GossipTrain x = Check.ofKinds(0, 0, 1, 0);
        Check.due("person -1", x.best(-1, 1), -1);
        Check.due("person 4", x.best(4, 1), -1);
        Check.due("NONE ahead of BAD", x.best(4, 0), -1);
        Check.due("n 0", x.best(0, 0), -2);
        Check.due("n 11", x.best(0, 11), -2);
        GossipTrain alone = Check.ofKinds(0);
        alone.seat(0, 2);
        Check.due("all alike: the first", alone.best(0, 10), 0);
        Check.due("asked changes nothing", alone.of(0, 2), 2);
        GossipTrain y = new GossipTrain();
        y.one(0, 0, 0, 0);
        y.one(0, 0, 2, 1);
        y.one(0, 0, 3, 2);
        y.set(1, 0, 9);
        y.set(0, 0, 5);
        y.leave(0, true);
        Check.due("OFF, so alike", y.best(0, 10), 0);
        y.leave(0, false);
        // by 3 it would hear the hotter tale from the next minute on
        Check.due("who tells hotter", y.best(0, 3), 3);
        y.know(2, 0);
        Check.due("who tells at all", y.best(0, 3), 2);
    }

    private static void bestBySteam() {
        GossipTrain x = new GossipTrain();
        x.one(0, 0, 0, 0);
        x.one(0, 0, 1, 1);
        Check.due("steep", Check.branch(x, "slope 99"), 0);
        // place is 0 anyway: two tell in carriage 1
        Check.due("by steam", x.best(0, 4), 1);
        Check.due("one minute is too few", x.best(0, 1), 0);
    }

    private static void swap() {
        GossipTrain none = new GossipTrain();
        Check.due("no one", none.swap(1), -5);
        Check.due("n 0", none.swap(0), -2);
        Check.due("n 11", none.swap(11), -2);
        Check.due("n 10", none.swap(10), -5);
        GossipTrain same = Check.ofKinds(0, 0);
        Check.due("two alike", same.swap(5), -5);
        GossipTrain x = new GossipTrain();
        x.one(0, 0, 0, 0);
        x.one(0, 0, 0, 0);
        x.one(0, 0, 1, 1);
        x.one(0, 0, 1, 2);
        Check.due("slope", Check.branch(x, "slope 1;warm 20 p=0"), 0);
        int want = byHand(x, 4);
        Check.holds("a pair is found", want >= 0);
        Check.due("by hand", x.swap(4), want);
        Check.due("asked changes nothing", x.of(2, 2), 1);
        for (int n = 1; n <= 10; n++) {
            GossipTrain y = Check.ofKinds(3, 0, 5, 6, 1, 2);
            for (int p = 0; p < 6; p++) {
                y.know(p, 1 << p | 1 << (p * 3 + 1) % 8);
                y.set(p, 0, (p * 5 + 2) % 10);
            }
            Check.due("branch", Check.branch(y, "slope 4;warm 9 v=2&t>3;warm 5 k=5;shame 3 o>2&p<3"), 0);
            Check.due("by hand " + n, y.swap(n), byHand(y, n));
        }
    }

    private static int byHand(GossipTrain x, int n) {
        int farthest = x.on(n, 1);
        int found = -5;
        for (int a = 0; a < x.count(0); a++) {
            for (int b = a + 1; b < x.count(0); b++) {
                int wasA = x.of(a, 2);
                int wasB = x.of(b, 2);
                x.seat(a, wasB);
                x.seat(b, wasA);
                if (x.on(n, 1) > farthest) {
                    farthest = x.on(n, 1);
                    found = 10 * a + b;
                }
                x.seat(a, wasA);
                x.seat(b, wasB);
            }
        }
        return found;
    }
}
