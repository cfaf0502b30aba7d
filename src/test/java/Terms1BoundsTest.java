/** 'Terms', part 1, without the branches and the minutes: a method for each sentence that names a bound. */
public final class Terms1BoundsTest {
    public static void main(String[] args) {
        tales();
        heat();
        toldOften();
        passengers();
        kinds();
        kindsUnder();
        v();
        carriage();
        knows();
        off();
        steamAtFirst();
        placeAtFirst();
        stations();
        minuteAtFirst();
        sum();
        glowBelowZero();
        glowWhereItBurns();
        ones();
        girls();
        guards();
        scandals();
        trappists();
        vicars();
        toldOnes();
        toldOnesByNumber();
        toldRows();
        Check.end("Terms1BoundsTest");
    }

    private static void tales() {
        Check.sentence("TALES are 0 .. 7");
        GossipTrain x = new GossipTrain();
        x.one(0, 0, 0, 0b10000001);
        Check.due("set of 0", x.set(0, 0, 4), 3);
        Check.due("set of 7", x.set(7, 0, 5), 3);
        Check.due("glow with 0", x.of(0, 10), 8);
        Check.due("glow with 7", x.of(0, 17), 10);
        Check.due("heat of 0", x.told(10), 4);
        Check.due("heat of 7", x.told(17), 5);
        Check.due("hears 0", x.hears(0, 0), 0);
        Check.due("hears 7", x.hears(0, 7), 0);
        Check.due("hears 1", x.hears(0, 1), -5);
        Check.due("hears 6", x.hears(0, 6), -5);
        Check.due("see 0", x.see(0, 0, 8), 1);
        Check.due("see 7", x.see(0, 7, 9), 2);
        Check.due("can of 0", x.can(1, 0, 1), 0);
        Check.due("can of 7", x.can(1, 7, 1), 1);
        Check.outside("set of tale", 0, 7, -1, t -> x.set(t, 0, 3));
        Check.outside("hears of tale", 0, 7, -1, t -> x.hears(0, t));
        Check.outside("see of tale", 0, 7, -1, t -> x.see(0, t, 0));
        Check.outside("can of tale", 0, 7, -1, t -> x.can(1, t, 0));
        Check.each("of behind the tales", 18, 20, -10001, what -> x.of(0, what));
        Check.each("told behind the heats", 18, 19, -1, what -> x.told(what));
        Check.each("told behind the oftens", 28, 29, -1, what -> x.told(what));
        Check.each("told behind the spreads", 38, 40, -1, what -> x.told(what));
        Check.each("on behind the oftens", 28, 30, -1, what -> x.on(0, what));
    }

    private static void heat() {
        Check.sentence("each with a HEAT (0 .. 9; 3 at first)");
        GossipTrain x = new GossipTrain();
        x.one(0, 0, 0, 0);
        Check.each("heat at first", 10, 17, 3, what -> x.told(what));
        for (int n = 0; n <= 9; n++) {
            int heat = n;
            Check.each("set " + n, 0, 7, n == 0 ? 3 : n - 1, t -> x.set(t, 0, heat));
            Check.each("heat", 10, 17, n, what -> x.told(what));
            Check.each("glow", 10, 17, 2 * n, what -> x.of(0, what));
        }
        Check.outside("heat", 0, 9, -2, n -> x.set(4, 0, n));
        Check.due("as it was", x.told(14), 9);
        Check.each("not OFTEN", 20, 27, 0, what -> x.told(what));
    }

    private static void toldOften() {
        Check.sentence("TOLD OFTEN (0 .. 99; 0 at first)");
        GossipTrain x = new GossipTrain();
        x.one(0, 0, 0, 0);
        Check.each("often at first", 20, 27, 0, what -> x.told(what));
        int was = 0;
        for (int n : new int[] {1, 98, 99, 0}) {
            int is = n;
            Check.each("set " + n, 0, 7, was, t -> x.set(t, 1, is));
            Check.each("often", 20, 27, n, what -> x.told(what));
            Check.each("glow", 10, 17, 6 - n, what -> x.of(0, what));
            was = n;
        }
        x.set(4, 1, 99);
        Check.outside("often", 0, 99, -2, n -> x.set(4, 1, n));
        Check.due("as it was", x.told(24), 99);
        Check.each("not HEAT", 10, 17, 3, what -> x.told(what));
    }

    private static void passengers() {
        Check.sentence("PASSENGERS 0 .. 5, as they come");
        GossipTrain x = new GossipTrain();
        for (int p = 0; p < 6; p++) {
            int next = p;
            Check.due("ahead of it", x.of(next, 0), -10001);
            Check.due("as it comes", x.one(0, p, 0, 0), p);
            Check.due("it is there", x.of(next, 1), p);
            Check.due("how many", x.count(0), p + 1);
            Check.outside("of with " + (p + 1), 0, p, -10001, n -> x.of(n, 0));
        }
        Check.due("a seventh", x.one(0, 0, 0, 0), -4);
        Check.due("is none", x.of(6, 0), -10001);
        Check.due("six", x.count(0), 6);
    }

    private static void kinds() {
        Check.sentence("are of KINDS: 0 ONE; 1 GIRL, 2 GUARD, 3 SCANDAL; 4 TRAPPIST; 5 VICAR; 6 TOLD");
        for (int kind = 0; kind <= 6; kind++) {
            GossipTrain x = new GossipTrain();
            Check.due("kind " + kind, x.one(kind, 0, 0, 0), 0);
            Check.due("is " + kind, x.of(0, 0), kind);
        }
        GossipTrain x = new GossipTrain();
        Check.outside("kind", 0, 6, -1, kind -> x.one(kind, 0, 0, 0));
        Check.due("no one came", x.count(0), 0);
    }

    private static void kindsUnder() {
        Check.sentence("under ONE; 4 TRAPPIST under GIRL; 5 VICAR under GUARD; 6 TOLD under SCANDAL");
        String[] under = {"0", "01", "02", "03", "014", "025", "036"};
        for (int kind = 0; kind <= 6; kind++) {
            GossipTrain x = new GossipTrain();
            x.one(kind, 0, 0, 0);
            for (int k = 0; k <= 6; k++) {
                boolean is = under[kind].indexOf('0' + k) >= 0;
                Check.due("kind " + kind + " taken for " + k, x.taken(0, k), is ? kind : -12);
            }
        }
    }

    private static void v() {
        Check.sentence("with a number v (0 .. 9)");
        GossipTrain x = new GossipTrain();
        Check.outside("v", 0, 9, -2, v -> x.one(1, v, 0, 0));
        Check.due("no one came", x.count(0), 0);
        Check.due("v 0", x.one(1, 0, 0, 0), 0);
        Check.due("v 9", x.one(1, 9, 0, 0), 1);
        Check.due("is 0", x.of(0, 1), 0);
        Check.due("is 9", x.of(1, 1), 9);
        Check.due("a girl by 0", x.of(0, 10), 6);
        Check.due("a girl by 9", x.of(1, 10), 15);
    }

    private static void carriage() {
        Check.sentence("a CARRIAGE (0 .. 3)");
        GossipTrain x = new GossipTrain();
        Check.outside("carriage", 0, 3, -1, c -> x.one(0, 0, c, 0));
        Check.due("no one came", x.count(0), 0);
        Check.each("each", 0, 3, 0, c -> x.one(0, 0, c, 0) - c);
        Check.each("is in its", 0, 3, 0, p -> x.of(p, 2) - p);
        Check.outside("a seat", 0, 3, -1, c -> x.seat(3, c));
        Check.due("stays", x.seat(3, 0), 3);
        Check.due("to the last", x.seat(3, 3), 0);
    }

    private static void knows() {
        Check.sentence("what it KNOWS (TALES as bits)");
        GossipTrain x = new GossipTrain();
        Check.outside("knows", 0, 255, -2, knows -> x.one(0, 0, 0, knows));
        Check.due("no one came", x.count(0), 0);
        Check.due("knows 0", x.one(0, 0, 0, 0), 0);
        Check.due("knows 255", x.one(0, 0, 1, 255), 1);
        Check.due("none", x.of(0, 3), 0);
        Check.due("all", x.of(1, 3), 255);
        for (int t = 0; t < 8; t++) {
            x.know(0, 1 << t);
            Check.due("tells bit " + t, x.of(0, 5), t);
            Check.due("hears bit " + t, x.hears(0, t), 0);
            Check.due("not the next", x.hears(0, (t + 1) % 8), -5);
        }
        Check.outside("know", 0, 255, -2, knows -> x.know(0, knows));
        Check.due("as it was", x.of(0, 3), 128);
    }

    private static void off() {
        Check.sentence("OFF, or not (not at first)");
        GossipTrain x = new GossipTrain();
        for (int p = 0; p < 6; p++) {
            x.one(p, 0, 0, 0);
            Check.due("not at first", x.of(p, 4), 0);
        }
        Check.due("is OFF now", x.leave(5, true), 0);
        Check.due("is OFF", x.of(5, 4), 1);
        Check.each("the others are not", 0, 4, 0, p -> x.of(p, 4));
        Check.due("is not now", x.leave(5, false), 1);
        Check.due("is not", x.of(5, 4), 0);
    }

    private static void steamAtFirst() {
        Check.sentence("STEAM: 0 .. 9999 (0 at first)");
        GossipTrain x = new GossipTrain();
        Check.due("at first", x.told(2), 0);
        x.one(0, 0, 0, 0);
        x.pass(30);
        Check.due("without a tale", x.told(2), 0);
        Check.due("ON", x.on(30, 0), 0);
        Check.due("ENDS", x.ends(1), 0);
    }

    private static void placeAtFirst() {
        Check.sentence("PLACE: 0 .. 9999 (0 at first");
        GossipTrain x = new GossipTrain();
        Check.due("at first", x.told(3), 0);
        x.one(0, 0, 0, 0);
        x.pass(30);
        Check.due("without a tale", x.told(3), 0);
        Check.due("ON", x.on(30, 1), 0);
        Check.due("ENDS", x.ends(0), 0);
    }

    private static void stations() {
        Check.sentence("STATIONS are at 0, 50, 100 and so on");
        GossipTrain x = Check.on("slope 1");
        x.one(0, 0, 0, 1);
        Check.due("at 0", x.gets(0), 0);
        goOn(x, 18, 18, 12, 1);
        Check.due("at 49", x.told(3), 49);
        Check.due("49 is ahead of 50", x.gets(1), -5);
        goOn(x, 1);
        Check.due("at 50", x.told(3), 50);
        Check.due("50 is there", x.gets(1), 0);
        Check.due("50 is ahead of 100", x.gets(2), -5);
        goOn(x, 18, 18, 13);
        Check.due("at 99", x.told(3), 99);
        Check.due("99 is ahead of 100", x.gets(2), -5);
        goOn(x, 1);
        Check.due("100 is there", x.gets(2), 0);
        goOn(x, 1);
        Check.due("101 is, too", x.gets(2), 0);
        Check.due("not at 150", x.gets(3), -5);
    }

    /** Minutes in which a ONE tells tale 0 just so hot, and knows nothing behind them. */
    private static void goOn(GossipTrain x, int... glows) {
        for (int glow : glows) {
            x.know(0, 1);
            x.set(0, 0, (glow + 1) / 2);
            x.set(0, 1, glow % 2);
            x.pass(1);
        }
        x.know(0, 0);
    }

    private static void minuteAtFirst() {
        Check.sentence("MINUTE: 0 at first");
        GossipTrain x = new GossipTrain();
        Check.due("at first", x.told(0), 0);
        x.one(4, 0, 0, 0);
        Check.due("a trappist glows", x.of(0, 10), 6);
        Check.due("none goes", x.pass(0), 0);
        Check.due("still", x.told(0), 0);
    }

    private static void sum() {
        Check.sentence("SUM: twice HEAT, less TOLD OFTEN, and all warm, less all shame, together (may be below 0)");
        GossipTrain x = new GossipTrain();
        x.one(0, 0, 0, 0);
        Check.due("no clause", x.of(0, 10), 6);
        x.set(0, 0, 0);
        Check.due("0", x.of(0, 10), 0);
        x.set(0, 1, 1);
        Check.due("-1", x.of(0, 10), -1);
        x.set(0, 1, 99);
        Check.due("-99", x.of(0, 10), -99);
        Check.branch(x, "shame 99 p=0;shame 99 p=0;shame 99 p=0;shame 99 p=0;shame 99 p=0;shame 99 p=0;shame 99 p=0");
        Check.due("seven shames", x.of(0, 10), -99 - 7 * 99);
        x.set(0, 0, 9);
        Check.due("hot", x.of(0, 10), 18 - 99 - 7 * 99);
        Check.branch(x, "warm 99 p=0;warm 99 p=0;warm 99 p=0;warm 99 p=0;warm 99 p=0;warm 99 p=0;warm 99 p=0;warm 99 p=0");
        Check.due("eight warms", x.of(0, 10), 18 - 99 + 8 * 99);
        Check.branch(x, "warm 7 p=0;shame 9 p=0;warm 50 p=1;shame 70 t=1;warm 1 v=0");
        Check.due("those that hold, together", x.of(0, 10), 18 - 99 + 7 - 9 + 1);
    }

    private static void glowBelowZero() {
        Check.sentence("GLOW of a PASSENGER and a TALE (may be below 0");
        GossipTrain x = Check.ofKinds(0, 1, 2, 3, 5, 6);
        for (int p = 0; p < 6; p++) {
            x.know(p, 1);
        }
        x.set(0, 0, 0);
        x.set(0, 1, 40);
        int[] want = {-40, -38, -20, -40, -25, -40};
        for (int p = 0; p < 6; p++) {
            Check.due("of " + p, x.of(p, 10), want[p]);
            Check.due("tells none " + p, x.of(p, 5), -5);
        }
        Check.branch(x, "shame 99 p<9;shame 99 p<9;shame 99 p<9");
        x.set(0, 1, 0);
        Check.due("below -500", x.of(3, 10), -594);
    }

    private static void glowWhereItBurns() {
        Check.sentence("0 at least where it burns)");
        GossipTrain x = Check.on("slope 99;shame 50 t=0");
        x.one(0, 0, 0, 1);
        x.one(0, 0, 0, 2);
        Check.due("below 0", x.of(0, 10), -44);
        x.pass(1);
        Check.due("steam of the other alone", x.told(2), 6);
        Check.due("not told", x.told(20), 0);
        x.see(0, 0, 0);
        Check.due("seen as 0: any v", x.can(0, 0, 0), 10);
        Check.due("seen as 0: any often", x.can(1, 0, 0), 100);
    }

    /** Of a passenger of a kind with v: its GLOW by HEAT and TOLD OFTEN of tale 0. */
    private static void glows(int kind, int v, int[]... heatOftenGlow) {
        GossipTrain x = new GossipTrain();
        x.one(kind, v, 0, 0);
        for (int[] row : heatOftenGlow) {
            x.set(0, 0, row[0]);
            x.set(0, 1, row[1]);
            Check.due("kind " + kind + " by heat " + row[0] + ", often " + row[1], x.of(0, 10), row[2]);
        }
    }

    private static void ones() {
        Check.sentence("ONE: SUM");
        glows(0, 9, new int[] {0, 0, 0}, new int[] {0, 1, -1}, new int[] {1, 1, 1}, new int[] {9, 0, 18},
            new int[] {9, 99, -81});
    }

    private static void girls() {
        Check.sentence("GIRL: SUM and v");
        glows(1, 0, new int[] {0, 0, 0}, new int[] {0, 1, -1}, new int[] {9, 0, 18});
        glows(1, 9, new int[] {0, 0, 9}, new int[] {0, 9, 0}, new int[] {0, 10, -1}, new int[] {9, 0, 27});
    }

    private static void guards() {
        Check.sentence("GUARD: the half (cut toward 0) of SUM");
        glows(2, 9, new int[] {0, 0, 0}, new int[] {1, 1, 0}, new int[] {1, 0, 1}, new int[] {2, 1, 1},
            new int[] {0, 1, 0}, new int[] {0, 2, -1}, new int[] {0, 3, -1}, new int[] {0, 99, -49});
    }

    private static void scandals() {
        Check.sentence("SCANDAL: SUM; twice that, if TOLD OFTEN is 0");
        glows(3, 9, new int[] {0, 0, 0}, new int[] {1, 0, 4}, new int[] {1, 1, 1}, new int[] {9, 0, 36},
            new int[] {9, 1, 17}, new int[] {0, 1, -1}, new int[] {9, 99, -81});
        GossipTrain x = Check.on("shame 7 p=0");
        x.one(3, 0, 0, 0);
        Check.due("twice below 0", x.of(0, 10), -2);
    }

    private static void trappists() {
        Check.sentence("TRAPPIST: as GIRL; 0, if MINUTE modulo 4 is not 0");
        GossipTrain x = Check.on("shame 50 t=1");
        x.one(4, 0, 0, 0);
        x.one(4, 9, 0, 0);
        for (int minute = 0; minute <= 12; minute++) {
            boolean is = minute % 4 == 0;
            Check.due("v 0 at " + minute, x.of(0, 10), is ? 6 : 0);
            Check.due("v 9 at " + minute, x.of(1, 10), is ? 15 : 0);
            Check.due("below 0 at " + minute, x.of(1, 11), is ? -35 : 0);
            x.pass(1);
        }
    }

    private static void vicars() {
        Check.sentence("VICAR: as GUARD, less v");
        glows(5, 0, new int[] {0, 0, 0}, new int[] {1, 1, 0}, new int[] {0, 1, 0}, new int[] {0, 3, -1});
        glows(5, 9, new int[] {0, 0, -9}, new int[] {9, 0, 0}, new int[] {9, 1, -1}, new int[] {0, 1, -9},
            new int[] {0, 3, -10});
    }

    private static void toldOnes() {
        Check.sentence("TOLD: as SCANDAL, and its ROW at TALE modulo 4 more");
        GossipTrain x = new GossipTrain();
        x.one(6, 9, 0, 0);
        for (int part = 0; part < 4; part++) {
            x.row(0, part, 2 * part + 1);
        }
        for (int t = 0; t < 8; t++) {
            Check.due("fresh " + t, x.of(0, 10 + t), 12 + 2 * (t % 4) + 1);
            x.set(t, 1, 1);
            Check.due("told once " + t, x.of(0, 10 + t), 5 + 2 * (t % 4) + 1);
            x.set(t, 1, 99);
            Check.due("below 0 " + t, x.of(0, 10 + t), -93 + 2 * (t % 4) + 1);
        }
    }

    private static void toldOnesByNumber() {
        Check.sentence("TOLD: its ROW (each one's own)");
        GossipTrain x = new GossipTrain();
        for (int p = 0; p < 6; p++) {
            x.one(6, 0, 0, 0);
            for (int part = 0; part < 4; part++) {
                x.row(p, part, p + part);
            }
        }
        for (int p = 0; p < 6; p++) {
            for (int t = 0; t < 8; t++) {
                Check.due("of " + p + " with " + t, x.of(p, 10 + t), 12 + p + t % 4);
            }
        }
    }

    private static void toldRows() {
        Check.sentence("its ROW (four numbers 0 .. 9; 0 at first)");
        GossipTrain x = new GossipTrain();
        x.one(6, 0, 0, 0);
        x.one(6, 0, 0, 0);
        Check.each("0 at first", 0, 3, 0, part -> x.row(0, part, 9));
        Check.each("9", 0, 3, 9, part -> x.row(0, part, 0));
        Check.each("0", 0, 3, 0, part -> x.row(0, part, 5));
        Check.outside("part", 0, 3, -1, part -> x.row(0, part, 0));
        Check.outside("number", 0, 9, -2, n -> x.row(0, 3, n));
        Check.each("as it was", 0, 3, 5, part -> x.row(0, part, 0));
        Check.each("the other's is its own", 0, 3, 0, part -> x.row(1, part, 0));
    }
}
