/** Promises 9 to 11. */
public final class BranchTest {
    public static void main(String[] args) {
        feed();
        branches();
        faults();
        clauses();
        letters();
        joining();
        told();
        ashAndSpread();
        Check.end("BranchTest");
    }

    private static void feed() {
        GossipTrain x = new GossipTrain();
        Check.due("-1", x.feed(-1), -2);
        Check.due("128", x.feed(128), -2);
        Check.due("0", x.feed(0), 1);
        Check.due("127", x.feed(127), 2);
        Check.due("refused changes nothing", x.count(5), 2);
        for (int k = 3; k <= 100; k++) {
            Check.due("feed " + k, x.feed('w'), k);
        }
        Check.due("FULL", x.feed('w'), -4);
        Check.due("BAD ahead of FULL", x.feed(128), -2);
        Check.due("100", x.count(5), 100);
        Check.due("sign 0", x.branch(), -10);
        Check.due("empty then", x.count(5), 0);
        Check.due("feed anew", x.feed('w'), 1);
    }

    private static void branches() {
        GossipTrain x = new GossipTrain();
        Check.due("empty text", x.branch(), -10);
        for (int k = 0; k < 6; k++) {
            Check.due("branch " + k, Check.branch(x, "slope " + (k + 10)), k);
            Check.due("text is empty", x.count(5), 0);
            Check.due("the newest holds", x.told(1), k + 10);
            if (k == 2) {
                Check.due("fault", Check.branch(x, "slope 7;"), -18);
                Check.due("text is empty by a fault", x.count(5), 0);
                Check.due("one that held holds", x.told(1), 12);
                Check.due("three", x.count(1), 3);
            }
        }
        Check.feed(x, "slope 9");
        Check.due("FULL", x.branch(), -4);
        Check.due("text stays", x.count(5), 7);
        Check.due("six", x.count(1), 6);
        Check.due("the sixth holds", x.told(1), 15);
        Check.due("FULL ahead of a fault", x.feed('x'), 8);
        Check.due("FULL still", x.branch(), -4);
    }

    private static void faults() {
        fault("w", 1);
        fault("warm", 4);
        fault("warm ", 5);
        fault("warm  1 p=1", 5);
        fault("warm 1", 6);
        fault("warm 12", 7);
        fault("warm 123", 7);
        fault("warm 1 ", 7);
        fault("warm 1  p=1", 7);
        fault("warm x p=1", 5);
        fault("warm 1;", 6);
        fault("warm 1 p", 8);
        fault("warm 1 pp", 8);
        fault("warm 1 p=", 9);
        fault("warm 1 p=x", 9);
        fault("warm 1 p=100", 11);
        fault("warm 1 p=1 ", 10);
        fault("warm 1 p=1)", 10);
        fault("warm 1 p=1&", 11);
        fault("warm 1 p=1|", 11);
        fault("warm 1 p=1|&", 11);
        fault("warm 1 (p=1", 11);
        fault("warm 1 (p=1;", 11);
        fault("warm 1 ()", 8);
        fault("warm 1 !", 8);
        fault("warm 1 !;", 8);
        fault("warm 1 q=1", 7);
        fault("Warm 1 p=1", 0);
        fault(" warm 1 p=1", 0);
        fault("shape 1 p=1", 3);
        fault("shame 1 p=1;", 12);
        fault("shame 1 p=1;;", 12);
        fault("shame 1 p=1; slope 1", 12);
        fault("slope", 5);
        fault("slope 1 ", 7);
        fault("slope 123", 8);
        fault("slope 1;warm 1 k~2", 16);
        fault("sx", 1);
        fault(";", 0);
        fault("warm 1 ((((p=1))))", -1);
        fault("warm 1 (((((p=1)))))", 11);
        fault("warm 1 !!!!p=1", -1);
        fault("warm 1 !!!!!p=1", 11);
        fault("warm 1 !(!(p=1))", -1);
        fault("warm 1 !(!(!p=1))", 11);
        fault("warm 1 !(!((p=1)))", 11);
        fault("warm 1 !!!!p=1&!!!!p=1|((((p=1))))", -1);
        fault("warm 0 p<0", -1);
        fault("warm 00 p>00;shame 99 m=99;slope 00", -1);
        fault("slope 1;slope 1;slope 1;slope 1;slope 1;slope 1;slope 1;slope 1;slope 1;slope 1", -1);
        fault("slope 1;slope 1;slope 1;slope 1;slope 1;slope 1;slope 1;slope 1;slope 1;slope 1;slope 1", 79);
        StringBuilder full = new StringBuilder("warm 1 p=10");
        while (full.length() < 97) {
            full.append("|p=1");
        }
        Check.due("99 bytes", full.length(), 99);
        fault(full.toString(), -1);
        fault(full + "|", 100);
    }

    private static void fault(String text, int at) {
        GossipTrain x = new GossipTrain();
        Check.due(text, Check.branch(x, text), at < 0 ? 0 : -10 - at);
        Check.due(text + " counts", x.count(1), at < 0 ? 1 : 0);
        Check.due(text + " is gone", x.count(5), 0);
    }

    private static void clauses() {
        Check.due("no clause", sum("slope 3", 0, 0), 6);
        Check.due("warm", sum("warm 7 p=0", 0, 0), 13);
        Check.due("shame", sum("shame 7 p=0", 0, 0), -1);
        Check.due("all together", sum("warm 99 p=0;shame 7 p=0;warm 10 p=1;shame 50 p=1;warm 1 t=0", 0, 0), 99);
        Check.due("none holds", sum("warm 99 p=1;shame 7 p=1", 0, 0), 6);
        GossipTrain x = new GossipTrain();
        Check.due("slopes", Check.branch(x, "slope 8;slope 0;warm 1 p=0"), 0);
        Check.due("the last slope", x.told(1), 0);
        Check.due("without slope", Check.branch(x, "warm 1 p=0"), 1);
        Check.due("5 without", x.told(1), 5);
        Check.due("slope 99", Check.branch(x, "slope 99"), 2);
        Check.due("99", x.told(1), 99);
    }

    /** SUM by a passenger of kind ONE with v 1, of six such, each with a tale of heat 3. */
    private static int sum(String text, int person, int tale) {
        GossipTrain x = Check.ofKinds(0, 0, 0, 0, 0, 0);
        Check.due(text, Check.branch(x, text), 0);
        return x.of(person, 10 + tale);
    }

    private static boolean isSo(String test, GossipTrain x, int person, int tale) {
        int before = x.of(person, 10 + tale);
        x.image();
        int less = Check.branch(x, "warm 0 p=9");
        Check.holds("a branch for " + test, less >= 0);
        before = x.of(person, 10 + tale);
        Check.holds(test + " is a branch", Check.branch(x, "warm 1 " + test) >= 0);
        return x.of(person, 10 + tale) == before + 1;
    }

    private static void so(String test, int minute, int often, boolean want) {
        GossipTrain x = new GossipTrain();
        x.one(0, 0, 0, 0);
        x.one(0, 0, 0, 0);
        x.one(1, 7, 0, 0);
        x.set(4, 1, often);
        x.pass(minute % 30);
        Check.due(test, isSo(test, x, 2, 4) ? 1 : 0, want ? 1 : 0);
    }

    private static void letters() {
        so("p=2", 0, 0, true);
        so("p<2", 0, 0, false);
        so("p<3", 0, 0, true);
        so("p>2", 0, 0, false);
        so("p>1", 0, 0, true);
        so("k=1", 0, 0, true);
        so("k=0", 0, 0, false);
        so("v=7", 0, 0, true);
        so("v=07", 0, 0, true);
        so("v<07", 0, 0, false);
        so("t=4", 0, 0, true);
        so("t>4", 0, 0, false);
        so("o=0", 0, 0, true);
        so("o=42", 0, 42, true);
        so("o>41", 0, 42, true);
        so("o<42", 0, 42, false);
        so("m=0", 0, 0, true);
        so("m=9", 9, 0, true);
        so("m=0", 10, 0, true);
        so("m=10", 10, 0, false);
        so("m=7", 27, 0, true);
    }

    private static void joining() {
        String[] bits = {"p=1", "p=2"};
        for (int a = 0; a < 2; a++) {
            for (int b = 0; b < 2; b++) {
                for (int c = 0; c < 2; c++) {
                    String left = bits[a];
                    String middle = bits[b];
                    String right = bits[c];
                    boolean l = a == 1;
                    boolean m = b == 1;
                    boolean r = c == 1;
                    so(left + "|" + middle + "&" + right, 0, 0, l || m && r);
                    so(left + "&" + middle + "|" + right, 0, 0, l && m || r);
                    so("(" + left + "|" + middle + ")&" + right, 0, 0, (l || m) && r);
                    so("!" + left + "&" + middle + "|" + right, 0, 0, !l && m || r);
                    so("!(" + left + "&" + middle + "|" + right + ")", 0, 0, !(l && m || r));
                    so("!!" + left + "|!" + middle + "&!" + right, 0, 0, l || !m && !r);
                    so(left + "|" + middle + "|" + right, 0, 0, l || m || r);
                    so(left + "&" + middle + "&" + right, 0, 0, l && m && r);
                    so("((" + left + "))&((!" + middle + ")|" + right + ")", 0, 0, l && (!m || r));
                }
            }
        }
        so("p=1|p=1&(p=1|p=2&(p=1|p=2&(p=1|p=2&(p=1|p=2))))", 0, 0, false);
        so("p=1|p=2&(p=1|p=2&(p=1|p=2&(p=1|p=2&(p=1|p=2))))", 0, 0, true);
    }

    private static void told() {
        GossipTrain x = Check.ofKinds(0, 0);
        for (int t = 0; t < 8; t++) {
            x.set(t, 0, t + 1);
            x.set(t, 1, 90 + t);
        }
        for (int t = 0; t < 8; t++) {
            Check.due("heat", x.told(10 + t), t + 1);
            Check.due("often", x.told(20 + t), 90 + t);
            Check.due("spread", x.told(30 + t), 3);
        }
        int[] none = {-1, 5, 9, 18, 19, 28, 29, 38, Integer.MIN_VALUE, Integer.MAX_VALUE, Integer.MIN_VALUE + 25};
        for (int what : none) {
            Check.due("told " + what, x.told(what), -1);
        }
        x.set(0, 1, 0);
        x.set(0, 0, 9);
        x.pass(3);
        Check.due("minute", x.told(0), 3);
        // twice 18, 17 .. as both tell tale 0 each minute
        Check.due("steam", x.told(2) + 5 * x.told(3), 18 + 17 + 16 + 15 + 14 + 13);
        Check.due("place", x.told(3), 18);
    }

    private static void ashAndSpread() {
        GossipTrain x = new GossipTrain();
        Check.due("ash of none", x.told(4), 255);
        Check.due("spread of none", x.told(30), 0);
        x.one(0, 0, 0, 0b0111);
        x.one(0, 0, 1, 0b1001);
        x.one(2, 0, 1, 0b0000);
        x.one(0, 0, 2, 0b10000);
        x.one(0, 0, 0, 0b0000);
        Check.due("ash", x.told(4), 0b11100000);
        Check.due("spread 0", x.told(30), 0b10111);
        Check.due("spread 3", x.told(33), 0b00110);
        Check.due("spread 7", x.told(37), 0);
        x.set(1, 0, 0);
        Check.due("no glow", x.told(4), 0b11100010);
        x.leave(1, true);
        Check.due("who is OFF burns nothing", x.told(4), 0b11101010);
        Check.due("a knower OFF", x.told(33), 0b00010);
        x.leave(1, false);
        x.leave(2, true);
        Check.due("a hearer OFF", x.told(33), 0b00010);
        x.leave(0, true);
        Check.due("ash by 1 alone", x.told(4), 0b11100110);
        Check.due("spread by OFF and not", x.told(30), 0b00011);
    }
}
