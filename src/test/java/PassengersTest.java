/** Promises 1 to 8. */
public final class PassengersTest {
    public static void main(String[] args) {
        newObject();
        one();
        of();
        glowsByKind();
        favourite();
        seat();
        know();
        leave();
        set();
        row();
        Check.end("PassengersTest");
    }

    private static void newObject() {
        GossipTrain x = new GossipTrain();
        for (int what = 0; what <= 6; what++) {
            Check.due("new count " + what, x.count(what), 0);
        }
        Check.due("new minute", x.told(0), 0);
        Check.due("new slope", x.told(1), 5);
        Check.due("new steam", x.told(2), 0);
        Check.due("new place", x.told(3), 0);
        for (int t = 0; t < 8; t++) {
            Check.due("new heat", x.told(10 + t), 3);
            Check.due("new often", x.told(20 + t), 0);
        }
        Check.due("new undo", x.undo(), -3);
        Check.due("new tape", x.read(0, 0), GossipTrain.NO);
        Check.due("new of", x.of(0, 0), -10001);
        GossipTrain other = new GossipTrain();
        other.one(0, 0, 0, 0);
        Check.due("objects are apart", x.count(0), 0);
    }

    private static void one() {
        GossipTrain x = new GossipTrain();
        Check.due("kind -1", x.one(-1, 0, 0, 0), -1);
        Check.due("kind 7", x.one(7, 0, 0, 0), -1);
        Check.due("carriage -1", x.one(0, 0, -1, 0), -1);
        Check.due("carriage 4", x.one(0, 0, 4, 0), -1);
        Check.due("v -1", x.one(0, -1, 0, 0), -2);
        Check.due("v 10", x.one(0, 10, 0, 0), -2);
        Check.due("knows -1", x.one(0, 0, 0, -1), -2);
        Check.due("knows 256", x.one(0, 0, 0, 256), -2);
        Check.due("NONE ahead of BAD", x.one(0, 10, 4, 256), -1);
        Check.due("refused changes nothing", x.count(0), 0);
        Check.due("lowest", x.one(0, 0, 0, 0), 0);
        Check.due("highest", x.one(6, 9, 3, 255), 1);
        Check.due("kind", x.of(1, 0), 6);
        Check.due("v", x.of(1, 1), 9);
        Check.due("carriage", x.of(1, 2), 3);
        Check.due("knows", x.of(1, 3), 255);
        Check.due("off", x.of(1, 4), 0);
        for (int k = 2; k < 6; k++) {
            Check.due("next", x.one(k, k, 0, k), k);
        }
        Check.due("FULL", x.one(0, 0, 0, 0), -4);
        Check.due("NONE ahead of FULL", x.one(7, 0, 0, 0), -1);
        Check.due("BAD ahead of FULL", x.one(0, 0, 0, 256), -2);
        Check.due("six", x.count(0), 6);
    }

    private static void of() {
        GossipTrain x = Check.ofKinds(0, 4);
        Check.due("person -1", x.of(-1, 0), -10001);
        Check.due("person 2", x.of(2, 0), -10001);
        Check.due("what -1", x.of(0, -1), -10001);
        Check.due("what 6", x.of(0, 6), -10001);
        Check.due("what 9", x.of(0, 9), -10001);
        Check.due("what 18", x.of(0, 18), -10001);
        Check.due("what lowest", x.of(0, Integer.MIN_VALUE), -10001);
        Check.due("what highest", x.of(0, Integer.MAX_VALUE), -10001);
        Check.due("what wraps", x.of(0, Integer.MIN_VALUE + 12), -10001);
        Check.due("person lowest", x.of(Integer.MIN_VALUE, 10), -10001);
        Check.due("glow 0", x.of(0, 10), 6);
        Check.due("glow 7", x.of(0, 17), 6);
        Check.due("trappist", x.of(1, 17), 8);
    }

    private static void glowsByKind() {
        GossipTrain x = new GossipTrain();
        for (int kind = 1; kind <= 6; kind++) {
            x.one(kind, 4, 0, 0);
        }
        int[] fresh = {10, 3, 12, 10, -1, 12};
        glows(x, 2, fresh);
        x.set(2, 1, 11);
        int[] stale = {-1, -2, -5, -1, -6, -5};
        glows(x, 2, stale);
        x.row(5, 2, 7);
        Check.due("row of 2", x.of(5, 12), 2);
        Check.due("row of 6", x.of(5, 16), 19);
        Check.due("no row of 3", x.of(5, 13), 12);
        x.set(6, 0, 9);
        x.set(6, 1, 1);
        int[] hot = {21, 8, 17, 21, 4, 24};
        glows(x, 6, hot);
        x.pass(1);
        Check.due("trappist at 1", x.of(3, 16), 0);
        x.pass(2);
        Check.due("trappist at 3", x.of(3, 16), 0);
        x.pass(1);
        Check.due("trappist at 4", x.of(3, 16), 21);
        GossipTrain cold = Check.ofKinds(0, 3);
        Check.due("shame", Check.branch(cold, "shame 20 p>-1".replace("-1", "9") + "|p<9"), 0);
        Check.due("ONE below 0", cold.of(0, 10), -14);
        Check.due("SCANDAL twice below 0", cold.of(1, 10), -28);
    }

    private static void glows(GossipTrain x, int tale, int[] want) {
        for (int p = 0; p < want.length; p++) {
            Check.due("glow of kind " + (p + 1) + " with " + tale, x.of(p, 10 + tale), want[p]);
        }
    }

    private static void favourite() {
        GossipTrain x = new GossipTrain();
        x.one(0, 0, 0, 0b11101100);
        Check.due("first of several", x.of(0, 5), 2);
        x.set(5, 0, 4);
        Check.due("the greatest", x.of(0, 5), 5);
        x.set(4, 0, 9);
        Check.due("not known", x.of(0, 5), 5);
        x.leave(0, true);
        Check.due("though OFF", x.of(0, 5), 5);
        x.know(0, 0);
        Check.due("knows nothing", x.of(0, 5), -5);
        x.know(0, 1);
        x.set(0, 0, 0);
        Check.due("0 is not above 0", x.of(0, 5), -5);
    }

    private static void seat() {
        GossipTrain x = Check.ofKinds(0, 1);
        Check.due("to 3", x.seat(1, 3), 1);
        Check.due("is at 3", x.of(1, 2), 3);
        Check.due("other stays", x.of(0, 2), 0);
        Check.due("back to 0", x.seat(1, 0), 3);
        Check.due("person -1", x.seat(-1, 0), -1);
        Check.due("person 2", x.seat(2, 0), -1);
        Check.due("carriage 4", x.seat(1, 4), -1);
        Check.due("carriage -1", x.seat(1, -1), -1);
        Check.due("refused changes nothing", x.of(1, 2), 0);
    }

    private static void know() {
        GossipTrain x = Check.ofKinds(0, 1);
        Check.due("to 0", x.know(0, 0), 255);
        Check.due("to 255", x.know(0, 255), 0);
        Check.due("to 7", x.know(0, 7), 255);
        Check.due("person 2", x.know(2, 0), -1);
        Check.due("person -1", x.know(-1, 0), -1);
        Check.due("NONE ahead of BAD", x.know(2, 256), -1);
        Check.due("256", x.know(0, 256), -2);
        Check.due("-1", x.know(0, -1), -2);
        Check.due("refused changes nothing", x.of(0, 3), 7);
        Check.due("other stays", x.of(1, 3), 255);
    }

    private static void leave() {
        GossipTrain x = Check.ofKinds(0, 1);
        Check.due("leaves", x.leave(1, true), 0);
        Check.due("is OFF", x.of(1, 4), 1);
        Check.due("other is not", x.of(0, 4), 0);
        Check.due("leaves again", x.leave(1, true), 1);
        Check.due("comes", x.leave(1, false), 1);
        Check.due("is not", x.of(1, 4), 0);
        Check.due("comes again", x.leave(1, false), 0);
        Check.due("person 2", x.leave(2, true), -1);
        Check.due("person -1", x.leave(-1, false), -1);
    }

    private static void set() {
        GossipTrain x = new GossipTrain();
        Check.due("heat 9", x.set(7, 0, 9), 3);
        Check.due("heat 0", x.set(7, 0, 0), 9);
        Check.due("often 99", x.set(0, 1, 99), 0);
        Check.due("often 0", x.set(0, 1, 0), 99);
        Check.due("often 12", x.set(0, 1, 12), 0);
        Check.due("told heat", x.told(17), 0);
        Check.due("told often", x.told(20), 12);
        Check.due("other's heat", x.told(16), 3);
        Check.due("tale -1", x.set(-1, 0, 0), -1);
        Check.due("tale 8", x.set(8, 0, 0), -1);
        Check.due("what -1", x.set(0, -1, 0), -1);
        Check.due("what 2", x.set(0, 2, 0), -1);
        Check.due("NONE ahead of BAD", x.set(8, 0, 10), -1);
        Check.due("heat 10", x.set(7, 0, 10), -2);
        Check.due("heat -1", x.set(7, 0, -1), -2);
        Check.due("often 100", x.set(0, 1, 100), -2);
        Check.due("often -1", x.set(0, 1, -1), -2);
        Check.due("refused heat", x.told(17), 0);
        Check.due("refused often", x.told(20), 12);
    }

    private static void row() {
        GossipTrain x = Check.ofKinds(6, 3, 6);
        for (int part = 0; part < 4; part++) {
            Check.due("0 at first", x.row(0, part, part + 2), 0);
        }
        for (int part = 0; part < 4; part++) {
            Check.due("what it was", x.row(0, part, 9 * (part % 2)), part + 2);
        }
        Check.due("other's", x.row(2, 0, 1), 0);
        Check.due("part -1", x.row(0, -1, 0), -1);
        Check.due("part 4", x.row(0, 4, 0), -1);
        Check.due("person 3", x.row(3, 0, 0), -1);
        Check.due("person -1", x.row(-1, 0, 0), -1);
        Check.due("NONE ahead of BAD", x.row(3, 0, 10), -1);
        Check.due("n 10", x.row(0, 0, 10), -2);
        Check.due("n -1", x.row(0, 0, -1), -2);
        Check.due("BAD ahead of STATE", x.row(1, 0, 10), -2);
        Check.due("a SCANDAL", x.row(1, 0, 9), -3);
        Check.due("refused changes nothing", x.row(0, 1, 0), 9);
    }
}
