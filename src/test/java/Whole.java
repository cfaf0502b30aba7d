import java.util.ArrayList;
import java.util.List;

/** Trains to try a call on, and all that can be learnt of one, which takes it to pieces. */
final class Whole {
    private Whole() {
    }

    /** Some of everything, with room for more, an image that is otherwise, and a text not yet read. */
    static GossipTrain rich() {
        GossipTrain x = new GossipTrain();
        x.one(0, 1, 0, 0b00000011);
        x.one(6, 3, 0, 0b00001000);
        x.one(4, 9, 1, 0b00010000);
        x.one(3, 2, 1, 0b11000000);
        for (int part = 0; part < 4; part++) {
            x.row(1, part, part + 1);
        }
        Check.branch(x, "slope 3;warm 4 t<3;shame 1 k=0");
        x.set(6, 0, 7);
        x.pass(3);
        x.see(0, 1, 5);
        x.plan(0, 0);
        x.book(1, 8);
        x.leave(3, true);
        x.image();
        Check.branch(x, "slope 6;warm 2 v>2");
        x.one(5, 0, 2, 0b10000000);
        x.leave(3, false);
        x.leave(2, true);
        x.set(1, 0, 9);
        x.set(5, 1, 40);
        x.pass(2);
        x.see(1, 3, 9);
        x.plan(1, 0);
        x.plan(3, 12);
        x.book(2, 16);
        tapes(x);
        Check.feed(x, "slope 7");
        x.act(1, 2, 5);
        return x;
    }

    private static void tapes(GossipTrain x) {
        for (int tape = 0; tape < 5; tape++) {
            x.tape(tape, tape, 3);
            for (int i = 0; i < 3; i++) {
                x.item(tape, i, tape + 2 * i - 2);
            }
        }
    }

    /** No room for anything more, and no image. */
    static GossipTrain full() {
        GossipTrain x = new GossipTrain();
        for (int p = 0; p < 6; p++) {
            x.one(p + 1, p, p % 4, 1 << p);
        }
        for (int k = 1; k <= 6; k++) {
            Check.branch(x, "slope " + k);
        }
        x.pass(2);
        for (int k = 0; k < 10; k++) {
            x.plan(0, 0);
            if (k < 8) {
                x.book(k % 6, x.of(k % 6, 3));
            }
            if (k < 5) {
                x.see(k, k, 3);
            }
        }
        tapes(x);
        Check.feed(x, "slope 5;".repeat(12) + "slop");
        x.act(5, 2, 9);
        return x;
    }

    static List<Long> of(GossipTrain x) {
        List<Long> all = new ArrayList<>();
        now(x, all);
        for (int i = -1; i < 13; i++) {
            all.add((long) x.trace(i));
        }
        for (int tape = 0; tape < 6; tape++) {
            for (int i = 0; i < 4; i++) {
                all.add(x.read(tape, i));
            }
            all.add((long) x.shift(tape, 0, tape, 0, 0));
        }
        all.add((long) x.count(5));
        all.add((long) x.count(6));
        for (int part = 0; part < 4; part++) {
            all.add((long) x.row(1, part, 0));
            all.add((long) x.row(5, part, 0));
        }
        all.add((long) x.branch());
        all.add((long) x.told(1));
        all.add((long) x.count(5));
        all.add((long) x.undo());
        now(x, all);
        for (int part = 0; part < 4; part++) {
            all.add((long) x.row(1, part, 0));
        }
        return all;
    }

    private static void now(GossipTrain x, List<Long> all) {
        for (int what = 0; what < 28; what++) {
            if (what < 5 || what >= 10 && what % 10 < 8) {
                all.add((long) x.told(what));
            }
        }
        for (int p = 0; p < 6; p++) {
            for (int what = 0; what < 5; what++) {
                all.add((long) x.of(p, what));
            }
            all.add((long) x.can(0, p, 0));
            all.add((long) x.can(0, p, 1));
        }
        for (int t = 0; t < 8; t++) {
            all.add((long) x.can(1, t, 0));
            all.add((long) x.can(1, t, 1));
        }
        for (int what = 0; what < 5; what++) {
            all.add((long) x.count(what));
        }
        all.add((long) x.looked());
        all.add((long) x.ends(0));
        all.add((long) x.ends(1));
        all.add((long) x.on(30, 0));
        all.add((long) x.on(30, 1));
    }
}
