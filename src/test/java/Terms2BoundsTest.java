/** 'Terms', part 2, without the acts and the image: a method for each sentence that names a bound. */
public final class Terms2BoundsTest {
    public static void main(String[] args) {
        beyond();
        fromHowAllIs();
        onMinutes();
        onWhat();
        getsStation();
        getsMinutes();
        hearsMinutes();
        seatMinutes();
        seatFarthest();
        seatSteam();
        seatFirst();
        seatOfFour();
        swapMinutes();
        swapFirst();
        swapFarther();
        swapNone();
        ash();
        ashNobody();
        spread();
        spreadOff();
        Check.end("Terms2BoundsTest");
    }

    private static GossipTrain at9999(String branch) {
        GossipTrain x = Check.on(branch);
        for (int k = 0; k < 333; k++) {
            x.pass(30);
        }
        Check.due("at 9999", x.pass(9), 9999);
        return x;
    }

    private static void beyond() {
        Check.sentence("goes on from how all is (MINUTES beyond 9999, too), and changes nothing");
        GossipTrain x = at9999("slope 4");
        x.one(4, 4, 0, 1);
        x.one(0, 0, 1, 0);
        x.one(0, 0, 0, 0);
        x.leave(2, true);
        Check.due("the trappist waits at 9999", x.on(1, 20), 0);
        Check.due("tells at 10000", x.on(2, 20), 1);
        Check.due("place by 10", x.on(2, 1), 2);
        Check.due("steam", x.on(2, 0), 2);
        // at 10000, 10004, .. 10028, by 10, 9, .. 3
        Check.due("eight times", x.on(30, 20), 8);
        Check.due("place by 52", x.on(30, 1), 13);
        Check.due("not so far", x.gets(1), -5);
        Check.due("not heard elsewhere", x.hears(1, 0), -5);
        Check.due("not heard if OFF", x.hears(2, 0), -5);
        x.seat(1, 0);
        Check.due("heard at 10000", x.hears(1, 0), 2);
        Check.due("knows then", x.on(2, 11), 1);
        Check.due("mean of 2 in 3", x.mean(2, 0), 2);
        Check.due("of 3", x.mean(2, 1), 3);
        Check.due("a seat by it", x.best(1, 2), 0);
        x.seat(1, 1);
        Check.due("1 with 2, who is OFF, hears it at 10000", x.swap(2), 12);
        Check.due("not at 9999", x.swap(1), -5);
        x.leave(2, false);
        Check.due("odds at 9999", x.odds(1, 1, 0), 1);
        x.plan(0, 0);
        x.plan(0, 0);
        Check.due("ENDS at 10001", x.ends(0), x.on(2, 1));
        Check.due("none goes", x.pass(1), -3);
        Check.due("9999 still", x.told(0), 9999);
        Check.due("nothing told", x.told(20), 0);
    }

    /** Six of each kind in turn, so that each number is each kind; one is OFF, one is a TOLD one's row. */
    private static void fromHowAllIs() {
        Check.sentence("All that follows is asked, goes on from how all is");
        for (int turn = 0; turn < 7; turn++) {
            GossipTrain x = Check.on("slope 3;warm 9 p=5;shame 2 k=6&o>1");
            for (int p = 0; p < 6; p++) {
                x.one((p + turn) % 7, (3 * p + turn) % 10, p % 4, 1 << p | 1 << (p + turn) % 8);
                x.row(p, p % 4, 9 - p);
            }
            x.leave(turn % 6, true);
            x.set(turn, 0, 9);
            x.set(7 - turn, 1, turn);
            x.pass(turn);
            int[] whats = {0, 1, 10, 11, 12, 13, 14, 15, 20, 23, 27};
            long[] asked = new long[whats.length];
            for (int k = 0; k < whats.length; k++) {
                asked[k] = x.on(5, whats[k]);
            }
            x.plan(0, 0);
            x.plan(0, 0);
            int place = x.ends(0);
            long mean = x.mean(5, 0) * 60 / x.mean(5, 1);
            x.pass(2);
            Check.due("ENDS by turn " + turn, place, x.told(3));
            x.pass(3);
            for (int k = 0; k < whats.length; k++) {
                Check.due("ON " + whats[k] + " by turn " + turn, asked[k], x.on(0, whats[k]));
            }
            Check.due("MEAN by turn " + turn, mean, x.mean(0, 0) * 60 / x.mean(0, 1));
            Check.due("steam by turn " + turn, asked[0], x.told(2));
            Check.due("knows by turn " + turn, asked[7], x.of(5, 3));
        }
    }

    private static void onMinutes() {
        Check.sentence("ON n MINUTES (0 .. 30)");
        GossipTrain x = Check.on("slope 99;warm 50 t=0");
        x.one(0, 0, 0, 1);
        Check.due("0: steam", x.on(0, 0), 0);
        Check.due("0: often", x.on(0, 20), 0);
        Check.due("1: steam", x.on(1, 0), 56);
        Check.due("1: often", x.on(1, 20), 1);
        Check.due("29: often", x.on(29, 20), 29);
        Check.due("30: often", x.on(30, 20), 30);
        // 56, 55 .. 27
        Check.due("30: place", x.on(30, 1), 12);
        Check.due("30: steam", x.on(30, 0), 57);
        Check.outside("n", 0, 30, -2, n -> x.on(n, 0));
        Check.outside("n by often", 0, 30, -2, n -> x.on(n, 27));
    }

    private static void onWhat() {
        Check.sentence("STEAM; PLACE; what one KNOWS; how OFTEN a TALE was TOLD");
        GossipTrain x = new GossipTrain();
        x.one(0, 0, 0, 0b00000001);
        x.one(0, 0, 0, 0b10000000);
        x.one(0, 0, 1, 0);
        Check.due("steam by 12", x.on(1, 0), 2);
        Check.due("place by 12", x.on(1, 1), 2);
        Check.due("0 heard 7", x.on(1, 10), 0b10000001);
        Check.due("1 heard 0", x.on(1, 11), 0b10000001);
        Check.due("2 heard none", x.on(30, 12), 0);
        Check.due("0 once", x.on(1, 20), 1);
        Check.due("7 once", x.on(1, 27), 1);
        Check.due("1 never", x.on(30, 21), 0);
        Check.each("none such", 2, 9, -1, what -> x.on(1, what));
        Check.each("none such", 13, 19, -1, what -> x.on(1, what));
        Check.outside("what", 0, 27, -1, what -> x.on(1, what));
        GossipTrain none = new GossipTrain();
        Check.due("no one", none.on(1, 10), -1);
        Check.due("the tales are there", none.on(1, 20), 0);
    }

    /** Twenty steps a minute as long as a test runs. */
    private static GossipTrain fast() {
        GossipTrain x = Check.on("slope 0;warm 99 v<9;warm 99 v<9;warm 99 v<9");
        for (int p = 0; p < 6; p++) {
            x.one(1, 0, p % 4, 1 << p);
        }
        return x;
    }

    private static void getsStation() {
        Check.sentence("GETS to a STATION (0 .. 99, at 50 times that)");
        GossipTrain x = fast();
        Check.outside("station", 0, 99, -2, station -> x.gets(station));
        Check.due("at 0", x.gets(0), 0);
        Check.due("40 and 60", x.gets(1), 3);
        Check.due("100", x.gets(2), 5);
        Check.due("140 and 160", x.gets(3), 8);
        for (int k = 0; k < 7; k++) {
            x.pass(30);
        }
        x.pass(7);
        Check.due("4340", x.told(3), 4340);
        Check.due("4940 is ahead of 4950", x.gets(99), -5);
        Check.due("4900 at 4900", x.gets(98), 28);
        x.pass(1);
        Check.due("4950 by 4960", x.gets(99), 30);
        x.pass(30);
        Check.due("is there", x.gets(99), 0);
        Check.due("was there", x.gets(98), 0);
        Check.due("was there first", x.gets(0), 0);
    }

    private static void getsMinutes() {
        Check.sentence("the fewest MINUTES (0 .. 30) behind which PLACE is that or more (-5: not by then)");
        GossipTrain x = fast();
        Check.due("550 in 28", x.gets(11), 28);
        Check.due("600 in 30", x.gets(12), 30);
        Check.due("650 not by 30", x.gets(13), -5);
        x.pass(1);
        Check.due("600 in 29", x.gets(12), 29);
        Check.due("650 not by 30 still", x.gets(13), -5);
        x.pass(1);
        Check.due("650 in 31, so not", x.gets(13), -5);
        x.pass(1);
        Check.due("650 in 30", x.gets(13), 30);
        Check.due("no one", new GossipTrain().gets(1), -5);
        Check.due("no one at 0", new GossipTrain().gets(0), 0);
    }

    /** Passenger 0 tells tale 0 so many times, then tale 1; passenger 1 only hears. */
    private static GossipTrain turns(int times) {
        GossipTrain x = Check.on("shame 99 p=1;warm 99 t=0&p=0&o<" + times + ";shame 99 t=0&o>" + (times - 1));
        x.one(0, 0, 2, 0b11);
        x.one(0, 0, 2, 0);
        return x;
    }

    private static void hearsMinutes() {
        Check.sentence("HEARS: the fewest MINUTES (0 .. 30) behind which it KNOWS that (-5: not by then)");
        Check.due("what it knows", turns(1).hears(0, 1), 0);
        Check.due("in 1", turns(1).hears(1, 0), 1);
        Check.due("in 2", turns(1).hears(1, 1), 2);
        Check.due("in 29", turns(28).hears(1, 1), 29);
        Check.due("in 30", turns(29).hears(1, 1), 30);
        Check.due("not by 30", turns(30).hears(1, 1), -5);
        GossipTrain x = turns(30);
        x.pass(1);
        Check.due("in 30 from then", x.hears(1, 1), 30);
        Check.due("heard by then", x.hears(1, 0), 0);
        Check.due("what none knows", x.hears(1, 7), -5);
        x.leave(1, true);
        Check.due("OFF", x.hears(1, 1), -5);
        x.know(1, 0b10000000);
        Check.due("OFF, but knows", x.hears(1, 7), 0);
    }

    private static void seatMinutes() {
        Check.sentence("SEAT of one and n MINUTES (1 .. 10)");
        GossipTrain x = new GossipTrain();
        x.one(0, 0, 0, 1);
        Check.outside("n", 1, 10, -2, n -> x.best(0, n));
        Check.each("n", 1, 10, 0, n -> x.best(0, n));
        // 1 tells from the ninth minute on; 0, if it sits there, tells it on in the tenth
        GossipTrain y = Check.on("slope 0;shame 90 m<8");
        y.one(0, 0, 0, 0);
        y.one(0, 0, 2, 0b100);
        Check.each("too few", 1, 9, 0, n -> y.best(0, n));
        Check.due("in 10", y.best(0, 10), 2);
        for (int n = 1; n <= 10; n++) {
            Check.due("by hand " + n, y.best(0, n), seatByHand(y, n));
        }
    }

    /** By the seats themselves, and what is ON behind n. */
    private static int seatByHand(GossipTrain x, int n) {
        int was = x.of(0, 2);
        int found = -1;
        int most = -1;
        for (int c = 0; c < 4; c++) {
            x.seat(0, c);
            int far = x.on(n, 1) * 10000 + x.on(n, 0);
            if (far > most) {
                most = far;
                found = c;
            }
        }
        x.seat(0, was);
        return found;
    }

    private static void seatFarthest() {
        Check.sentence("the CARRIAGE in which, were it in that now, PLACE behind n is greatest");
        for (int c = 0; c < 4; c++) {
            GossipTrain x = new GossipTrain();
            x.one(0, 0, 3 - c, 0);
            x.one(0, 0, c, 1);
            Check.due("who tells is in " + c, x.best(0, 2), c);
            Check.due("nothing changed", x.of(0, 2), 3 - c);
        }
        // steam 26 by 0 and 3, 30 by 1, 32 by 2: there a place is won, and 1 is left
        GossipTrain y = Check.on("slope 31");
        y.one(0, 0, 0, 0);
        y.one(0, 0, 1, 0b01);
        y.one(0, 0, 2, 0b10);
        y.set(1, 0, 4);
        Check.due("a place ahead of more steam", y.best(0, 2), 2);
        y.seat(1, 3);
        y.seat(2, 0);
        Check.due("by 0, the first", y.best(0, 2), 0);
        Check.due("less steep", Check.branch(y, "slope 30"), 1);
        Check.due("a place by both, 2 and 0 left", y.best(0, 2), 0);
    }

    private static void seatSteam() {
        Check.sentence("of these that by which STEAM is");
        GossipTrain x = Check.on("slope 99");
        x.one(0, 0, 0, 0);
        x.one(0, 0, 2, 1);
        Check.due("no place is won: more steam", x.best(0, 2), 2);
        Check.due("a minute is too few", x.best(0, 1), 0);
        x.one(0, 0, 3, 2);
        x.set(1, 0, 4);
        Check.due("more steam still", x.best(0, 2), 3);
        // 14, then 12, 16 or 18: a place by each, and 6, 10 or 12 left
        GossipTrain y = Check.on("slope 20");
        y.one(0, 0, 0, 0);
        y.one(0, 0, 1, 0b01);
        y.one(0, 0, 2, 0b10);
        y.set(1, 0, 4);
        Check.due("the most that is left", y.best(0, 2), 2);
        y.seat(1, 2);
        y.seat(2, 1);
        Check.due("so by 1, too", y.best(0, 2), 1);
    }

    private static void seatFirst() {
        Check.sentence("SEAT: of several the first");
        GossipTrain x = Check.on("slope 99");
        x.one(0, 0, 3, 1);
        Check.due("all alike", x.best(0, 10), 0);
        x.one(0, 0, 1, 1);
        x.one(0, 0, 2, 1);
        x.know(0, 0);
        Check.due("1 and 2 alike", x.best(0, 2), 1);
        x.leave(1, true);
        Check.due("2 alone", x.best(0, 2), 2);
        x.leave(2, true);
        Check.due("none", x.best(0, 2), 0);
    }

    /** Wherever the guard sits it tells what another tells better; a fifth carriage would be best for it. */
    private static void seatOfFour() {
        Check.sentence("SEAT: the CARRIAGE (0 .. 3, and none that would be better)");
        GossipTrain x = Check.on("shame 99 o>2");
        x.one(2, 0, 3, 0);
        for (int c = 0; c < 4; c++) {
            x.one(0, 0, c, 1 << c);
        }
        Check.due("each as bad: the first", x.best(0, 3), 0);
        x.leave(4, true);
        Check.due("alone with who is OFF", x.best(0, 3), 3);
    }

    private static void swapMinutes() {
        Check.sentence("SWAP of n MINUTES (1 .. 10)");
        GossipTrain x = Check.on("slope 1");
        x.one(0, 0, 0, 0);
        x.one(0, 0, 0, 1);
        x.one(0, 0, 1, 0b10);
        x.set(1, 0, 9);
        Check.outside("n", 1, 10, -2, n -> x.swap(n));
        for (int n = 1; n <= 10; n++) {
            Check.due("by hand " + n, x.swap(n), swapByHand(x, n));
        }
        // 1 tells from the ninth minute on; 0, if it sits there for 2, tells it on in the tenth
        GossipTrain y = Check.on("slope 0;shame 90 m<8;warm 9 t=2");
        y.one(0, 0, 0, 0);
        y.one(0, 0, 2, 0b100);
        y.one(0, 0, 2, 0);
        y.leave(2, true);
        Check.each("too few", 1, 9, -5, n -> y.swap(n));
        Check.due("in 10", y.swap(10), 2);
    }

    private static int swapByHand(GossipTrain x, int n) {
        int most = x.on(n, 1);
        int found = -5;
        for (int a = 0; a < x.count(0); a++) {
            for (int b = a + 1; b < x.count(0); b++) {
                int wasA = x.seat(a, x.of(b, 2));
                int wasB = x.seat(b, wasA);
                int far = x.on(n, 1);
                x.seat(a, wasA);
                x.seat(b, wasB);
                if (far > most) {
                    most = far;
                    found = 10 * a + b;
                }
            }
        }
        return found;
    }

    private static void swapFirst() {
        Check.sentence("the first two (10 times the lesser and the greater number; of several the first)");
        GossipTrain x = new GossipTrain();
        x.one(0, 0, 0, 0);
        x.one(0, 0, 1, 0);
        x.one(0, 0, 2, 0);
        x.one(0, 0, 3, 0);
        Check.due("none tells", x.swap(10), -5);
        x.know(3, 1);
        Check.due("none sits with another", x.swap(10), -5);
        x.seat(2, 1);
        Check.due("1 or 2 with 3: the first", x.swap(2), 13);
        x.one(0, 0, 3, 0);
        Check.due("3 has one to hear it as it is", x.swap(2), -5);
        x.one(0, 0, 1, 0);
        Check.due("two in 1 to hear it", x.swap(2), 13);
        for (int p = 0; p < 6; p++) {
            x.leave(p, p % 3 == 1);
        }
        Check.due("1 and 4 OFF", x.swap(2), swapByHand(x, 2));
        GossipTrain last = new GossipTrain();
        for (int p = 0; p < 6; p++) {
            last.one(0, 0, p == 5 ? 1 : 0, p == 5 ? 1 : 0);
            last.leave(p, p == 1 || p == 2 || p == 3);
        }
        Check.due("0 with 5", last.swap(2), 5);
        last.leave(0, true);
        Check.due("the first OFF with 5, so that 4 hears it", last.swap(2), 5);
        last.seat(0, 2);
        Check.due("1 with 5 by now", last.swap(2), 15);
        last.seat(1, 2);
        last.seat(2, 2);
        Check.due("3 with 5", last.swap(2), 35);
        last.seat(3, 1);
        Check.due("4 with 3, who is OFF", last.swap(2), 34);
        last.seat(3, 2);
        last.leave(3, false);
        last.seat(3, 0);
        last.leave(4, true);
        Check.due("4, who is OFF, with 5: 3 hears it", last.swap(2), 45);
    }

    private static void swapFarther() {
        Check.sentence("who, if they had each other's CARRIAGE, would bring PLACE farthest behind n");
        // with 2 in 0 only 1 hears; with 3 in 0 so, too, but hotter
        GossipTrain x = new GossipTrain();
        x.one(0, 0, 0, 0);
        x.one(0, 0, 0, 0);
        x.one(0, 0, 1, 0b01);
        x.one(0, 0, 2, 0b10);
        Check.due("alike: the first", x.swap(2), 2);
        x.set(1, 0, 9);
        Check.due("the hotter", x.swap(2), 3);
        x.set(1, 0, 0);
        Check.due("the colder is none", x.swap(2), 2);
        Check.due("nothing changed", x.of(2, 2), 1);
    }

    private static void swapNone() {
        Check.sentence("if farther than as it is (-5: none)");
        Check.due("no one", new GossipTrain().swap(1), -5);
        GossipTrain x = Check.ofKinds(0);
        Check.due("one alone", x.swap(10), -5);
        GossipTrain steep = Check.on("slope 99");
        steep.one(0, 0, 0, 0);
        steep.one(0, 0, 0, 0);
        steep.one(0, 0, 1, 1);
        Check.due("more steam is not farther", steep.swap(2), -5);
        Check.due("on 0", Check.branch(steep, "slope 0"), 1);
        Check.due("farther by that", steep.swap(2), 2);
        GossipTrain less = new GossipTrain();
        less.one(0, 0, 0, 1);
        less.one(0, 0, 0, 0);
        less.one(0, 0, 1, 0);
        Check.due("as far", less.swap(1), -5);
        less.seat(1, 1);
        less.leave(2, true);
        Check.due("by 0 to where 1 is", less.swap(2), 2);
    }

    private static void ash() {
        Check.sentence("ASH: those TALES, as bits, by which no one not OFF who KNOWS them GLOWS above 0");
        GossipTrain x = new GossipTrain();
        x.one(0, 0, 0, 255);
        Check.due("all glow", x.told(4), 0);
        x.set(0, 1, 5);
        x.set(7, 1, 5);
        Check.due("by 1", x.told(4), 0);
        x.set(0, 1, 6);
        x.set(7, 1, 6);
        Check.due("by 0", x.told(4), 0b10000001);
        x.set(0, 1, 7);
        Check.due("by -1", x.told(4), 0b10000001);
        x.one(1, 2, 1, 0b10000000);
        Check.due("above 0 by another", x.told(4), 0b00000001);
        x.leave(1, true);
        Check.due("who is OFF", x.told(4), 0b10000001);
        x.leave(0, true);
        Check.due("all are OFF", x.told(4), 255);
    }

    private static void ashNobody() {
        Check.sentence("(those that nobody knows, too)");
        GossipTrain x = new GossipTrain();
        Check.due("no one", x.told(4), 255);
        x.one(0, 0, 0, 0);
        Check.due("one who knows none", x.told(4), 255);
        for (int t = 0; t < 8; t++) {
            x.know(0, 1 << t);
            Check.due("all but " + t, x.told(4), 255 - (1 << t));
        }
    }

    private static void spread() {
        Check.sentence("SPREAD of a TALE: all who KNOW it, and all in whose CARRIAGE one of these is (bits)");
        GossipTrain x = new GossipTrain();
        Check.each("no one", 30, 37, 0, what -> x.told(what));
        x.one(0, 0, 0, 0b00000001);
        x.one(0, 0, 1, 0);
        x.one(0, 0, 1, 0);
        x.one(0, 0, 2, 0);
        x.one(0, 0, 3, 0);
        x.one(0, 0, 0, 0b10000000);
        Check.due("of 0", x.told(30), 0b100001);
        Check.due("of 7", x.told(37), 0b100001);
        Check.each("of others", 31, 36, 0, what -> x.told(what));
        x.know(2, 0b10000000);
        Check.due("of 7 in 1, too", x.told(37), 0b100111);
        x.set(7, 0, 0);
        Check.due("cold as it may be", x.told(37), 0b100111);
        x.know(4, 0b10000000);
        x.know(3, 0b10000000);
        Check.due("of 7 to all", x.told(37), 0b111111);
    }

    private static void spreadOff() {
        Check.sentence("SPREAD: in whose CARRIAGE, not OFF, one of these, not OFF, is");
        GossipTrain x = new GossipTrain();
        x.one(0, 0, 0, 1);
        x.one(0, 0, 0, 0);
        x.one(0, 0, 0, 0);
        Check.due("all", x.told(30), 0b111);
        x.leave(1, true);
        Check.due("who sits there is OFF", x.told(30), 0b101);
        x.leave(0, true);
        Check.due("who knows it is OFF", x.told(30), 0b001);
        x.leave(1, false);
        Check.due("the others are not", x.told(30), 0b001);
        x.know(1, 1);
        Check.due("another knows it", x.told(30), 0b111);
        x.leave(2, true);
        Check.due("who is OFF", x.told(30), 0b011);
        x.know(2, 1);
        Check.due("who is OFF but knows it", x.told(30), 0b111);
        x.one(0, 0, 0, 1);
        x.leave(1, true);
        Check.due("another who is not", x.told(30), 0b1111);
        x.know(2, 2);
        Check.due("each that knows it, OFF or not", x.told(30), 0b1011);
    }
}
