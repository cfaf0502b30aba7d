/** Promises 18 to 21. */
public final class SeenTest {
    public static void main(String[] args) {
        see();
        canOfPassenger();
        stale();
        odds();
        mean();
        Check.end("SeenTest");
    }

    private static void see() {
        GossipTrain x = Check.ofKinds(0, 1);
        Check.due("person -2", x.see(-2, 0, 0), -1);
        Check.due("person 2", x.see(2, 0, 0), -1);
        Check.due("tale -1", x.see(0, -1, 0), -1);
        Check.due("tale 8", x.see(0, 8, 0), -1);
        Check.due("NONE ahead of BAD", x.see(2, 0, 100), -1);
        Check.due("glow -1", x.see(0, 0, -1), -2);
        Check.due("glow 100", x.see(0, 0, 100), -2);
        Check.due("refused changes nothing", x.count(2), 0);
        for (int k = 1; k <= 5; k++) {
            Check.due("see " + k, x.see(1, 7, k == 1 ? 0 : 99), k);
        }
        Check.due("FULL", x.see(0, 0, 0), -4);
        Check.due("NONE ahead of FULL", x.see(0, 8, 0), -1);
        Check.due("BAD ahead of FULL", x.see(0, 0, 100), -2);
        Check.due("none then", x.see(-1, 9, 1000), 0);
        Check.due("count", x.count(2), 0);
        Check.due("none again", x.see(-1, 0, 0), 0);
        Check.due("anew", x.see(0, 0, 0), 1);
    }

    private static void canOfPassenger() {
        GossipTrain x = Check.ofKinds(0, 1, 5);
        Check.due("what -1", x.can(-1, 0, 0), -1);
        Check.due("what 2", x.can(2, 0, 0), -1);
        Check.due("person 3", x.can(0, 3, 0), -1);
        Check.due("person -1", x.can(0, -1, 0), -1);
        Check.due("tale 8", x.can(1, 8, 0), -1);
        Check.due("tale -1", x.can(1, -1, 0), -1);
        Check.due("part 2", x.can(0, 0, 2), -1);
        Check.due("part -1", x.can(1, 0, -1), -1);
        Check.due("nothing seen: all", x.can(0, 1, 0), 10);
        Check.due("nothing seen: the least", x.can(0, 1, 1), 0);
        x.see(1, 0, 9);
        Check.due("girl: one", x.can(0, 1, 0), 1);
        Check.due("girl: 3", x.can(0, 1, 1), 3);
        Check.due("another is free", x.can(0, 2, 0), 10);
        x.see(1, 1, 9);
        Check.due("both so", x.can(0, 1, 0), 1);
        x.set(1, 0, 4);
        Check.due("not both", x.can(0, 1, 0), 0);
        Check.due("no least", x.can(0, 1, 1), -5);
        x.see(-1, 0, 0);
        x.see(2, 2, 0);
        // 3 - v as it burns
        Check.due("vicar: 0 from 3 on", x.can(0, 2, 0), 7);
        Check.due("vicar: least", x.can(0, 2, 1), 3);
        x.see(0, 2, 6);
        Check.due("one: any v", x.can(0, 0, 0), 10);
        Check.due("by v in a test", Check.branch(x, "warm 5 v>5"), 0);
        Check.due("one: v up to 5", x.can(0, 0, 0), 6);
        Check.due("asked changes nothing", x.of(0, 1), 1);
    }

    private static void stale() {
        GossipTrain x = Check.ofKinds(0, 3, 2);
        Check.due("nothing seen: all", x.can(1, 3, 0), 100);
        Check.due("nothing seen: least", x.can(1, 3, 1), 0);
        x.see(0, 3, 0);
        Check.due("one: from 6 on", x.can(1, 3, 0), 94);
        Check.due("one: least", x.can(1, 3, 1), 6);
        Check.due("another tale", x.can(1, 4, 0), 100);
        x.see(-1, 0, 0);
        x.see(1, 3, 5);
        Check.due("scandal: 1", x.can(1, 3, 0), 1);
        Check.due("scandal: least", x.can(1, 3, 1), 1);
        x.see(0, 3, 6);
        Check.due("not both", x.can(1, 3, 0), 0);
        Check.due("no least", x.can(1, 3, 1), -5);
        x.see(-1, 0, 0);
        x.see(1, 3, 12);
        Check.due("scandal fresh", x.can(1, 3, 1), 0);
        x.see(-1, 0, 0);
        x.see(2, 3, 2);
        Check.due("guard: 4 and 5, cut", x.can(1, 3, 0), 2);
        Check.due("guard: least", x.can(1, 3, 1), 1);
        x.see(-1, 0, 0);
        x.see(0, 3, 0);
        x.set(3, 0, 9);
        Check.due("18 .. 99", x.can(1, 3, 0), 82);
        Check.due("warm", Check.branch(x, "warm 99 o=99"), 0);
        Check.due("not by 99", x.can(1, 3, 0), 81);
        Check.due("asked changes nothing", x.told(23), 0);
    }

    private static void odds() {
        GossipTrain x = Check.ofKinds(0, 1);
        long no = GossipTrain.NO;
        Check.due("person -1", x.odds(-1, 0, 0), no);
        Check.due("person 2", x.odds(2, 0, 0), no);
        Check.due("n -1", x.odds(0, -1, 0), no);
        Check.due("n 11", x.odds(0, 11, 0), no);
        Check.due("part -1", x.odds(0, 0, -1), no);
        Check.due("part 2", x.odds(0, 0, 2), no);
        Check.due("knows all", x.odds(0, 10, 0), 0);
        Check.due("0 of 1", x.odds(0, 10, 1), 1);
        GossipTrain y = new GossipTrain();
        y.one(0, 0, 0, 1);
        for (int t = 0; t < 8; t++) {
            y.set(t, 0, t < 4 ? 3 : t < 6 ? 9 : 0);
        }
        // 6 steam is a step of 5; 18 are 3
        Check.due("2 of 8", y.odds(0, 1, 0), 1);
        Check.due("of 4", y.odds(0, 1, 1), 4);
        Check.due("0 minutes", y.odds(0, 0, 0), 0);
        y.know(0, 0);
        Check.due("6 of 8", y.odds(0, 1, 0), 3);
        Check.due("of 4", y.odds(0, 1, 1), 4);
        y.set(6, 0, 3);
        Check.due("7 of 8", y.odds(0, 1, 0), 7);
        Check.due("of 8", y.odds(0, 1, 1), 8);
        y.set(7, 0, 3);
        Check.due("8 of 8", y.odds(0, 1, 0), 1);
        Check.due("of 1", y.odds(0, 1, 1), 1);
        y.leave(0, true);
        Check.due("who is OFF", y.odds(0, 10, 0), 0);
        Check.due("asked changes nothing", y.of(0, 3), 0);
    }

    private static void mean() {
        GossipTrain x = new GossipTrain();
        long no = GossipTrain.NO;
        Check.due("no one", x.mean(0, 0), no);
        x.one(0, 0, 0, 0);
        Check.due("0 above", x.mean(0, 0), 0);
        Check.due("1 below", x.mean(0, 1), 1);
        x.one(0, 0, 0, 255);
        Check.due("4 above", x.mean(0, 0), 4);
        Check.due("1 below", x.mean(0, 1), 1);
        x.one(0, 0, 2, 3);
        x.leave(2, true);
        Check.due("10 above", x.mean(0, 0), 10);
        Check.due("3 below", x.mean(0, 1), 3);
        Check.due("one has heard", x.mean(1, 0), 11);
        Check.due("3 below", x.mean(1, 1), 3);
        x.one(0, 0, 3, 0);
        Check.due("10 of 4", x.mean(0, 0), 5);
        Check.due("2 below", x.mean(0, 1), 2);
        Check.due("n 30", x.mean(30, 1) > 0 ? 1 : 0, 1);
        Check.due("n -1", x.mean(-1, 0), no);
        Check.due("n 31", x.mean(31, 0), no);
        Check.due("part -1", x.mean(0, -1), no);
        Check.due("part 2", x.mean(0, 2), no);
        Check.due("asked changes nothing", x.of(0, 3), 0);
    }
}
