/** 'Terms', part 1, on branches: a method for each sentence that names a bound. */
public final class BranchBoundsTest {
    public static void main(String[] args) {
        bytes();
        clauses();
        blanks();
        digits();
        choices();
        factors();
        letters();
        signs();
        testNumbers();
        minuteModulo();
        within();
        besideEachOther();
        faultPlace();
        faultOfEachSign();
        faultAtTheEnd();
        newestHolds();
        sixAtMost();
        withoutBranch();
        lastSlope();
        Check.end("BranchBoundsTest");
    }

    private static void good(String text) {
        GossipTrain x = new GossipTrain();
        Check.due(text, Check.branch(x, text), 0);
    }

    private static void fault(String text, int at) {
        GossipTrain x = new GossipTrain();
        Check.due(text, Check.branch(x, text), -10 - at);
        Check.due(text + " is no branch", x.count(1), 0);
    }

    private static String repeated(String part, int times) {
        return part.repeat(times);
    }

    private static void bytes() {
        Check.sentence("THE TEXT (bytes, 100 at most)");
        String of99 = "warm 1 p=10" + repeated("|p=1", 22);
        String of100 = "warm 11 p=10" + repeated("|p=1", 22);
        Check.due("99 bytes long", of99.length(), 99);
        Check.due("100 bytes long", of100.length(), 100);
        fault("", 0);
        fault("w", 1);
        good(of99);
        good(of100);
        fault(of99.substring(0, 98) + " ", 98);
        fault(of99 + "|", 100);
        fault(of99 + "w", 99);
        GossipTrain x = new GossipTrain();
        Check.feed(x, of100);
        Check.due("one more", x.feed('0'), -4);
        Check.due("100 still", x.count(5), 100);
        Check.due("as it was", x.branch(), 0);
        Check.due("none then", x.count(5), 0);
        x.one(0, 0, 0, 0);
        x.one(0, 0, 0, 0);
        Check.due("the 100 are read", x.of(1, 10), 17);
        Check.due("by whom they name", x.of(0, 10), 6);
        Check.feed(x, of100);
        Check.due("one more than 100 again", x.feed('0'), -4);
    }

    private static void clauses() {
        Check.sentence("CLAUSES, 1 to 10, with ; between");
        fault("", 0);
        fault(";", 0);
        good("slope 1");
        good("slope 1;slope 2");
        fault("slope 1;", 8);
        fault("slope 1;;slope 1", 8);
        fault(";slope 1", 0);
        fault("slope 1slope 1", 7);
        fault("slope 1,slope 1", 7);
        good(repeated("slope 1;", 8) + "slope 1");
        good(repeated("slope 1;", 9) + "slope 1");
        fault(repeated("slope 1;", 9) + "slope 1;", 79);
        fault(repeated("slope 1;", 10) + "slope 1", 79);
        fault(repeated("slope 1;", 9) + "warm 1 p=1;slope 1", 82);
        fault(repeated("slope 1;", 9), 72);
        String tenOf100 = repeated("warm 9 v=0;", 7) + "slope 1;slope 2;slope 3";
        Check.due("100 bytes", tenOf100.length(), 100);
        GossipTrain x = Check.on(tenOf100);
        x.one(0, 0, 0, 0);
        Check.due("all seven warm", x.of(0, 10), 6 + 63);
        Check.due("the tenth", x.told(1), 3);
    }

    private static void blanks() {
        Check.sentence("one blank ahead of each part behind the word");
        fault("warm1 p=1", 4);
        fault("warm  1 p=1", 5);
        fault("warm 1p=1", 6);
        fault("warm 1  p=1", 7);
        fault(" warm 1 p=1", 0);
        fault("warm 1 p=1 ", 10);
        fault("shame1 p=1", 5);
        fault("shame  1 p=1", 6);
        fault("shame 1p=1", 7);
        fault("shame 1  p=1", 8);
        fault("slope1", 5);
        fault("slope  1", 6);
        fault("slope 1 ", 7);
        fault("slope 1; slope 1", 8);
        fault("slope 1 ;slope 1", 7);
        fault("warm 1 p =1", 8);
        fault("warm 1 p= 1", 9);
        fault("warm 1 p=1 |p=1", 10);
        fault("warm 1 p=1| p=1", 11);
        fault("warm 1 ( p=1)", 8);
        fault("warm 1 ! p=1", 8);
        fault("warm\t1 p=1", 4);
    }

    private static void digits() {
        Check.sentence("n 1 or 2 digits");
        for (String word : new String[] {"warm ", "shame "}) {
            fault(word + " p=1", word.length());
            good(word + "0 p=1");
            good(word + "9 p=1");
            good(word + "00 p=1");
            good(word + "99 p=1");
            fault(word + "100 p=1", word.length() + 2);
            fault(word + "001 p=1", word.length() + 2);
            fault(word + "-1 p=1", word.length());
            fault(word + "/ p=1", word.length());
            fault(word + ": p=1", word.length());
            fault(word + "1/ p=1", word.length() + 1);
            fault(word + "1: p=1", word.length() + 1);
        }
        String[] told = {"0", "9", "00", "09", "10", "99"};
        for (String n : told) {
            Check.due("slope " + n, Check.on("slope " + n).told(1), Integer.parseInt(n));
            GossipTrain x = Check.on("warm " + n + " p=0;shame " + n + " p=1");
            x.one(0, 0, 0, 0);
            x.one(0, 0, 0, 0);
            Check.due("warm " + n, x.of(0, 10), 6 + Integer.parseInt(n));
            Check.due("shame " + n, x.of(1, 10), 6 - Integer.parseInt(n));
        }
        fault("slope ", 6);
        fault("slope 100", 8);
        fault("slope 000", 8);
        fault("slope -1", 6);
        fault("slope /", 6);
        fault("slope :", 6);
        fault("slope 1/", 7);
        fault("slope 1:", 7);
    }

    /** How much hotter a branch 'warm 1 E' makes tale 1 for passenger 1, of kind GIRL with v 5, told 3 times. */
    private static void so(String e, boolean is) {
        GossipTrain x = new GossipTrain();
        x.one(0, 0, 0, 0);
        x.one(1, 5, 0, 0);
        x.set(1, 1, 3);
        x.pass(2);
        Check.due("branch of " + e, Check.branch(x, "warm 1 " + e), 0);
        Check.due(e, x.of(1, 11), 3 + 5 + (is ? 1 : 0));
    }

    private static void choices() {
        Check.sentence("E: T or T|E. T: F or F&T");
        so("t=1", true);
        so("t=0", false);
        so("t=0|t=1", true);
        so("t=1|t=0", true);
        so("t=0|t=0", false);
        so("t=0|t=0|t=0|t=1", true);
        so("t=1&t=1", true);
        so("t=1&t=0", false);
        so("t=0&t=1", false);
        so("t=1&t=1&t=1&t=0", false);
        so("t=1|t=1&t=0", true);
        so("t=0&t=1|t=1", true);
        so("t=0&t=0|t=1&t=1", true);
        so("t=1&t=0|t=0&t=1", false);
        fault("warm 1 |t=1", 7);
        fault("warm 1 &t=1", 7);
        fault("warm 1 t=1|", 11);
        fault("warm 1 t=1&", 11);
        fault("warm 1 t=1||t=1", 11);
        fault("warm 1 t=1&&t=1", 11);
        fault("warm 1 t=1t=1", 10);
    }

    private static void factors() {
        Check.sentence("F: !F, (E), or a TEST");
        so("!t=0", true);
        so("!t=1", false);
        so("!!t=1", true);
        so("!t=0&t=1", true);
        so("!t=1|t=1", true);
        so("!(t=1|t=1)", false);
        so("(t=1)", true);
        so("(t=0)", false);
        so("(t=1|t=1)&t=0", false);
        so("t=0&(t=1|t=1)", false);
        fault("warm 1 ()", 8);
        fault("warm 1 (t=1", 11);
        fault("warm 1 t=1)", 10);
        fault("warm 1 (t=1))", 12);
        fault("warm 1 (t=1;slope 1", 11);
        fault("warm 1 !", 8);
        fault("warm 1 t!=1", 8);
        fault("warm 1 (!)", 9);
        fault("warm 1 (t=1)(t=1)", 12);
        fault("warm 1 (t=1)t=1", 12);
    }

    /** A letter that is told as n: its tests by n - 1, n and n + 1, where these may be written. */
    private static void letter(char letter, int n) {
        for (int by = Math.max(0, n - 1); by <= n + 1; by++) {
            so(letter + "<" + by, n < by);
            so(letter + "=" + by, n == by);
            so(letter + ">" + by, n > by);
        }
        so(letter + "<0", false);
        so(letter + ">99", false);
        so(letter + "<99", true);
        so(letter + "=99", false);
    }

    private static void letters() {
        Check.sentence("p the number of the one, k its KIND, v its v, t the number of the other, o TOLD OFTEN, m MINUTE");
        letter('p', 1);
        letter('k', 1);
        letter('v', 5);
        letter('t', 1);
        letter('o', 3);
        letter('m', 2);
        GossipTrain x = Check.on("warm 1 p=0;warm 2 k=0;warm 4 v=0;warm 8 t=0;warm 16 o=0;warm 32 m=0");
        x.one(0, 0, 0, 0);
        x.one(6, 9, 0, 0);
        Check.due("all are 0", x.of(0, 10), 6 + 63);
        Check.due("of the first and tale 7", x.of(0, 17), 6 + 55);
        Check.due("of the last", x.of(1, 17), 2 * (6 + 48));
        Check.due("the greatest", Check.branch(x, "warm 1 p=1;warm 2 k=6;warm 4 v=9;warm 8 t=7;warm 16 o=99"), 1);
        x.set(7, 1, 99);
        Check.due("all are greatest", x.of(1, 17), 6 - 99 + 31);
        fault("warm 1 q=1", 7);
        fault("warm 1 n=1", 7);
        fault("warm 1 P=1", 7);
        fault("warm 1 1=1", 7);
        fault("warm 1 =1", 7);
        fault("warm 1 pk=1", 8);
    }

    private static void signs() {
        Check.sentence("a TEST: a letter, < or = or >, a number");
        good("warm 1 p<1");
        good("warm 1 p=1");
        good("warm 1 p>1");
        fault("warm 1 p1", 8);
        fault("warm 1 p;1", 8);
        fault("warm 1 p?1", 8);
        fault("warm 1 p!1", 8);
        fault("warm 1 p<=1", 9);
        fault("warm 1 p==1", 9);
        fault("warm 1 p", 8);
        fault("warm 1 p&p=1", 8);
    }

    private static void testNumbers() {
        Check.sentence("a number (1 or 2 digits)");
        good("warm 1 p=0");
        good("warm 1 p=9");
        good("warm 1 p=00");
        good("warm 1 p=99");
        fault("warm 1 p=", 9);
        fault("warm 1 p=x", 9);
        fault("warm 1 p=/", 9);
        fault("warm 1 p=:", 9);
        fault("warm 1 p=-1", 9);
        fault("warm 1 p=100", 11);
        fault("warm 1 p=000", 11);
        fault("warm 1 p=1/", 10);
        fault("warm 1 p=1:", 10);
        so("v=05", true);
        so("v=5", true);
        so("v=50", false);
        so("o<03", false);
        so("o<10", true);
        so("o<30", true);
    }

    private static void minuteModulo() {
        Check.sentence("m MINUTE modulo 10");
        GossipTrain x = Check.on("warm 1 m=0;warm 2 m=9;warm 4 m=1;warm 8 m>9;warm 16 m=10");
        x.one(0, 0, 0, 0);
        int[] want = {1, 4, 0, 0, 0, 0, 0, 0, 0, 2};
        for (int minute = 0; minute <= 21; minute++) {
            Check.due("at " + minute, x.of(0, 10), 6 + want[minute % 10]);
            x.pass(1);
        }
        GossipTrain y = Check.on("warm 30 m=9&t=1;warm 30 m=0&t=2");
        for (int k = 0; k < 333; k++) {
            y.pass(30);
        }
        y.pass(9);
        y.one(0, 0, 0, 0b111);
        Check.due("at 9999", y.of(0, 5), 1);
        Check.due("told at 9999", y.on(1, 21), 1);
        Check.due("not yet at 9999", y.on(1, 22), 0);
        Check.due("told at 10000", y.on(2, 22), 1);
    }

    private static void within() {
        Check.sentence("A ( or ! within 4 others is none");
        good("warm 1 ((((p=1))))");
        good("warm 1 !!!!p=1");
        good("warm 1 !(!(p=1))");
        good("warm 1 (!(!p=1))");
        fault("warm 1 (((((p=1)))))", 11);
        fault("warm 1 !!!!!p=1", 11);
        fault("warm 1 !(!((p=1)))", 11);
        fault("warm 1 (!(!!p=1))", 11);
        fault("warm 1 ((((!p=1))))", 11);
        fault("warm 1 !!!!(p=1)", 11);
        fault("warm 1 ((((p=1&(p=1)))))", 15);
        fault("warm 1 ((((p=1|!p=1))))", 15);
        fault("warm 1 (((p=1&!!p=1)))", 15);
        so("((((t=1))))", true);
        so("((((t=0))))", false);
        so("!!!!t=1", true);
        so("!!!!t=0", false);
        so("!(!(t=1))", true);
        so("!(!(t=0))", false);
    }

    private static void besideEachOther() {
        Check.sentence("A ( or ! within 4 others (those beside it are none it is within)");
        good("warm 1 (p=1)|(p=1)|(p=1)|(p=1)|(p=1)|(p=1)");
        good("warm 1 !p=1&!p=1&!p=1&!p=1&!p=1&!p=1");
        good("warm 1 !!!!p=1|!!!!p=1&((((p=1))))");
        good("warm 1 (((!p=1)|(p=1)|!p=1)&!!p=1)");
        good("warm 1 !(((p=1)))&!p=1;warm 1 ((((p=1))))");
        good("warm 1 (((!p=1)|(p=1)|!(p=1)))");
        fault("warm 1 (((!p=1)|(p=1)|!((p=1))))", 24);
        so("(((!t=0)&(t=1)&!t=0)&!!t=1)", true);
        so("(((!t=0)&(t=1)&!t=1)&!!t=1)", false);
        so("t=0|t=1&(t=0|t=1&(t=0|t=1&(t=0|t=1&(t=0|t=1&t=1))))", true);
        so("t=0|t=1&(t=0|t=1&(t=0|t=1&(t=0|t=1&(t=0|t=1&t=0))))", false);
    }

    /** A byte that stands in no branch, at each place of a good text, is the fault: the same ahead of it is good. */
    private static void faultPlace() {
        Check.sentence("The FAULT: the place of the first byte with which none begins so");
        String text = "warm 12 !(p<3|k=44)&v>5;shame 6 t=7;slope 80";
        good(text);
        for (int at = 0; at < text.length(); at++) {
            for (char sign : new char[] {0, 127, '~', 'W'}) {
                fault(text.substring(0, at) + sign + text.substring(at + 1), at);
                fault(text.substring(0, at) + sign + sign, at);
            }
        }
        fault(text + "~", text.length());
        fault("lope 1", 0);
        fault("hame 1 p=1", 0);
        fault("arm 1 p=1", 0);
        fault("slope 1;lope 1", 8);
        fault("slope 1;hame 1 p=1", 8);
        fault("slope 1;arm 1 p=1", 8);
        fault("warm 1;slope 1", 6);
        fault("slope 1 p=1", 7);
        fault("warp", 3);
        fault("sharm", 3);
        fault("shamm", 4);
        fault("slame", 2);
        fault("sa", 1);
        fault("walm ", 2);
        fault("x~~~", 0);
        GossipTrain x = new GossipTrain();
        Check.due("the one that held holds", Check.branch(x, "slope 9"), 0);
        Check.due("a fault", Check.branch(x, "slope 8;slope 7;w"), -27);
        Check.due("nothing of it holds", x.told(1), 9);
    }

    /** Each sign behind each beginning of these, held against the Model's reading, which is another one. */
    private static void faultOfEachSign() {
        Check.sentence("The FAULT: the place of the first byte with which none begins so (each byte, 0 .. 127)");
        String[] texts = {
            "warm 12 !(p<3|k=44)&v>5;shame 6 t=7;slope 80",
            "shame 1 ((!(o>9)&m=0|!!!!t<2))|p=1",
            repeated("slope 1;", 9) + "warm 1 v=1",
        };
        for (String text : texts) {
            for (int at = 0; at <= text.length(); at++) {
                for (char sign = 0; sign < 128; sign++) {
                    String told = text.substring(0, at) + sign;
                    GossipTrain x = new GossipTrain();
                    for (int k = 0; k < told.length(); k++) {
                        x.feed(told.charAt(k));
                    }
                    int fault = Model.fault(told);
                    Check.due(told, x.branch(), fault < 0 ? 0 : -10 - fault);
                }
            }
        }
    }

    /** Each beginning of a good text that is no good text itself. */
    private static void faultAtTheEnd() {
        Check.sentence("the end of THE TEXT, if it ends too early");
        String text = "warm 12 !(p<3|k=44)&v>55;shame 6 t=7;slope 80";
        String goodLengths = " 19 23 24 36 44 45 ";
        for (int length = 0; length <= text.length(); length++) {
            String ahead = text.substring(0, length);
            if (goodLengths.contains(" " + length + " ")) {
                good(ahead);
            } else {
                fault(ahead, length);
            }
        }
    }

    private static void newestHolds() {
        Check.sentence("The newest BRANCH holds");
        GossipTrain x = new GossipTrain();
        x.one(0, 0, 0, 0);
        for (int k = 0; k < 6; k++) {
            Check.due("branch " + k, Check.branch(x, "slope " + (k + 20) + ";warm " + (k + 1) + " t=" + k), k);
            Check.due("its slope", x.told(1), k + 20);
            for (int t = 0; t < 8; t++) {
                Check.due("its warmth", x.of(0, 10 + t), t == k ? 6 + k + 1 : 6);
            }
        }
    }

    private static void sixAtMost() {
        Check.sentence("6 at most");
        GossipTrain x = new GossipTrain();
        Check.each("branch", 0, 5, 0, k -> Check.branch(x, "slope " + k) - k);
        Check.due("six", x.count(1), 6);
        Check.due("a seventh", Check.branch(x, "slope 6"), -4);
        Check.due("six still", x.count(1), 6);
        Check.due("the sixth holds", x.told(1), 5);
    }

    private static void withoutBranch() {
        Check.sentence("without one there are no CLAUSES. SLOPE (5 without)");
        GossipTrain x = new GossipTrain();
        x.one(0, 0, 0, 0);
        Check.due("slope", x.told(1), 5);
        Check.due("glow", x.of(0, 10), 6);
        Check.due("a fault", Check.branch(x, "slope 7;warm 5 p=0;"), -29);
        Check.due("slope still", x.told(1), 5);
        Check.due("glow still", x.of(0, 10), 6);
        Check.due("a branch without slope", Check.branch(x, "warm 5 p=0"), 0);
        Check.due("5 by that, too", x.told(1), 5);
        Check.due("its glow", x.of(0, 10), 11);
        x.image();
        Check.due("slope 3", Check.branch(x, "slope 3"), 1);
        Check.due("a newer without", Check.branch(x, "shame 5 p=0"), 2);
        Check.due("5, not the older's", x.told(1), 5);
        Check.due("glow", x.of(0, 10), 1);
    }

    private static void lastSlope() {
        Check.sentence("SLOPE: the last one's n");
        Check.due("one", Check.on("slope 0").told(1), 0);
        Check.due("the last", Check.on("slope 99;slope 0;slope 7").told(1), 7);
        Check.due("ahead of a warm", Check.on("slope 98;warm 5 p=0").told(1), 98);
        Check.due("0 last", Check.on("slope 5;warm 9 p=9;slope 0;shame 9 p=9").told(1), 0);
    }
}
