import java.util.ArrayList;
import java.util.List;

/** 'Terms': to be OFF keeps one from telling and from hearing; all else is said of every PASSENGER, OFF or not. */
public final class OffTest {
    public static void main(String[] args) {
        sameOff();
        seenOff();
        judgedOff();
        lookedOff();
        heldOff();
        alreadyKnown();
        Check.end("OffTest");
    }

    /** One of each of six kinds, one of them OFF or not. */
    private static GossipTrain six(int person, boolean isOff) {
        GossipTrain x = Check.ofKinds(1, 2, 3, 4, 5, 6);
        for (int t = 0; t < 8; t++) {
            x.set(t, 0, 9 - t);
            x.set(t, 1, t % 3);
        }
        x.leave(person, isOff);
        return x;
    }

    private static List<Long> all(GossipTrain x, int p) {
        List<Long> all = new ArrayList<>();
        for (int what = 0; what < 18; what++) {
            all.add((long) (what == 4 ? 0 : x.of(p, what)));
        }
        all.add((long) x.seat(p, 3));
        all.add((long) x.of(p, 2));
        all.add((long) x.know(p, 0b11));
        all.add((long) x.of(p, 3));
        all.add((long) x.row(p, 3, 8));
        all.add((long) x.see(p, 1, Math.max(0, x.of(p, 11))));
        all.add((long) x.can(0, p, 0));
        all.add((long) x.can(0, p, 1));
        all.add((long) x.can(1, 1, 0));
        all.add((long) x.can(1, 1, 1));
        all.add((long) x.hears(p, 1));
        all.add(x.mean(0, 0));
        all.add(x.mean(0, 1));
        all.add((long) x.plan(3, 10 * p));
        all.add((long) x.book(p, 0b11));
        all.add((long) x.looked());
        all.add((long) x.act(p, 2, 7));
        all.add((long) x.count(6));
        all.add((long) x.trace(0));
        all.add((long) x.taken(p, 0));
        all.add((long) x.image());
        all.add((long) x.undo());
        return all;
    }

    private static void sameOff() {
        Check.sentence("OFF, or not (what is said of a PASSENGER is said of one OFF, too)");
        for (int p = 0; p < 6; p++) {
            List<Long> is = all(six(p, true), p);
            List<Long> was = all(six(p, false), p);
            Check.holds("of " + p + ": OFF " + is + ", not " + was, is.equals(was));
        }
    }

    private static void seenOff() {
        Check.sentence("SEEN: what it would GLOW with that now (OFF, or not knowing it)");
        GossipTrain x = new GossipTrain();
        x.one(1, 4, 0, 0);
        x.leave(0, true);
        x.see(0, 2, 10);
        Check.due("v is 4", x.can(0, 0, 1), 4);
        Check.due("no other", x.can(0, 0, 0), 1);
        Check.due("told 0 times", x.can(1, 2, 1), 0);
        Check.due("no other number", x.can(1, 2, 0), 1);
        x.see(0, 2, 0);
        Check.due("not 0 as well", x.can(0, 0, 1), -5);
    }

    private static void judgedOff() {
        Check.sentence("What each KNOWS is JUDGED (of those OFF, too)");
        GossipTrain x = new GossipTrain();
        x.tape(2, 1, 3);
        for (int p = 0; p < 3; p++) {
            x.one(0, 0, p, 1 << p);
            x.leave(p, true);
            x.item(2, p, 1 << p);
        }
        Check.due("none is otherwise", x.judge(2, 0), -5);
        x.item(2, 2, 9);
        Check.due("the last", x.judge(2, 0), 2);
        x.item(2, 0, 9);
        Check.due("the first", x.judge(2, 0), 0);
        Check.due("the row ends behind none", x.judge(2, 3), 100);
    }

    private static void lookedOff() {
        Check.sentence("LOOKED at: by which it is otherwise now (of those OFF, too)");
        GossipTrain x = new GossipTrain();
        x.one(0, 0, 0, 1);
        x.one(0, 0, 0, 2);
        x.leave(1, true);
        x.book(0, 1);
        x.book(1, 1);
        Check.due("the one OFF", x.looked(), 1);
        x.know(1, 1);
        Check.due("none", x.looked(), -5);
    }

    private static void heldOff() {
        Check.sentence("each one not OFF tells; all who are not OFF KNOW it (in what is asked, too)");
        GossipTrain x = Check.on("slope 7");
        x.one(0, 0, 0, 1);
        x.one(0, 0, 1, 0b111);
        x.one(0, 0, 0, 0);
        x.leave(1, true);
        x.leave(2, true);
        Check.due("by one alone, 6", x.on(1, 0), 6);
        Check.due("hears of no one", x.hears(2, 0), -5);
        Check.due("what the one OFF KNOWS is told to no one", x.hears(0, 2), -5);
        Check.due("wherever it sits", x.best(1, 5), 0);
        Check.due("whatever more it KNOWS", x.odds(1, 10, 0), 0);
        Check.due("whoever it changes with", x.swap(10), -5);
        Check.due("all KNOW together, those OFF too: above", x.mean(5, 0), 4);
        Check.due("below", x.mean(5, 1), 3);
        x.plan(2, 1);
        x.plan(0, 0);
        Check.due("not OFF by the PLAN: 6 and 5 are more than 7", x.ends(0), 1);
        x.plan(-1, 0);
        x.plan(0, 0);
        x.plan(2, 1);
        Check.due("not OFF too late", x.ends(1), 6);
    }

    /** It tells tale 0 ahead of a scandal to whom that is fresh: to KNOW it less would bring PLACE farther. */
    private static void alreadyKnown() {
        Check.sentence("if it KNEW one more TALE now, each of 8 alike likely (one that it KNOWS changes nothing)");
        GossipTrain x = Check.on("slope 12");
        x.one(0, 0, 0, 1);
        x.one(3, 0, 1, 1);
        Check.due("6 and 5", x.on(1, 0), 11);
        Check.due("none is farther: above", x.odds(0, 1, 0), 0);
        Check.due("none is farther: below", x.odds(0, 1, 1), 1);
        x.know(0, 0);
        Check.due("without it, 12", x.on(1, 1), 1);
    }
}
