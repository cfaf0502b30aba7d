/** 'Terms', part 1, on a minute: a method for each sentence that names a bound. */
public final class MinuteBoundsTest {
    public static void main(String[] args) {
        byNumber();
        notOff();
        knowsThen();
        greatestThen();
        aboveZero();
        firstOfSeveral();
        steamByGlow();
        oftenAtMost();
        allInCarriage();
        wholeSlopes();
        steps();
        slopeZero();
        slopesLess();
        steamHeld();
        placeHeld();
        minuteMore();
        Check.end("MinuteBoundsTest");
    }

    /** Steep, so that what steam there is can be looked at: no place is won by less than 99. */
    private static GossipTrain steep(String clauses) {
        return Check.on("slope 99" + clauses);
    }

    private static void byNumber() {
        Check.sentence("one behind the other by number");
        GossipTrain x = steep("");
        x.one(0, 0, 0, 0);
        x.one(0, 0, 0, 1);
        x.one(0, 0, 0, 0);
        x.pass(1);
        Check.due("1 and 2 told", x.told(20), 2);
        Check.due("6 and 5", x.told(2), 11);
        Check.due("0 has heard", x.of(0, 3), 1);
        x.pass(1);
        Check.due("all three told", x.told(20), 5);
        Check.due("4, 3, 2 more", x.told(2), 20);
    }

    private static void notOff() {
        Check.sentence("each one not OFF tells");
        GossipTrain x = steep("");
        for (int p = 0; p < 6; p++) {
            x.one(0, 0, p % 4, 1 << p);
        }
        x.leave(0, true);
        x.leave(5, true);
        x.pass(1);
        Check.due("0 did not", x.told(20), 0);
        Check.due("5 did not", x.told(25), 0);
        Check.each("the others did", 21, 24, 1, what -> x.told(what));
        Check.due("by four", x.told(2), 24);
        x.leave(0, false);
        x.leave(5, false);
        x.pass(1);
        Check.due("0 did, and 4 who had heard", x.told(20), 2);
        Check.due("5 did", x.told(25), 1);
        for (int p = 0; p < 6; p++) {
            x.leave(p, true);
        }
        int steam = x.told(2);
        Check.due("all are OFF", x.pass(30), 32);
        Check.due("no steam", x.told(2), steam);
    }

    private static void knowsThen() {
        Check.sentence("tells that TALE of what it KNOWS then");
        GossipTrain x = steep("");
        x.set(1, 0, 9);
        x.one(0, 0, 0, 0b0001);
        x.one(0, 0, 0, 0b0010);
        x.one(0, 0, 0, 0b0001);
        x.pass(1);
        Check.due("0 knew only tale 0", x.told(20), 1);
        Check.due("1, and 2 who had heard", x.told(21), 2);
        Check.due("not what no one knows", x.told(22), 0);
        Check.due("6, 18, 17", x.told(2), 41);
    }

    private static void greatestThen() {
        Check.sentence("whose GLOW is greatest then");
        GossipTrain x = steep("");
        x.one(0, 0, 0, 0b11);
        x.one(0, 0, 1, 0b11);
        x.one(0, 0, 2, 0b11);
        x.pass(1);
        Check.due("0 and 2: the first, then again", x.told(20), 2);
        Check.due("1: the other is hotter by then", x.told(21), 1);
        Check.due("6, 6, 5", x.told(2), 17);
        GossipTrain y = steep(";warm 1 o=1&t=3");
        y.one(0, 0, 0, 0b1001);
        y.one(0, 0, 1, 0b1000);
        y.set(3, 1, 1);
        Check.due("told once, warmed by that", y.of(0, 13), 6);
        y.pass(1);
        Check.due("0: the first of equals", y.told(20), 1);
        Check.due("1: what it knows", y.told(23), 2);
        Check.due("6, 6", y.told(2), 12);
        GossipTrain last = steep("");
        last.set(7, 0, 4);
        last.one(0, 0, 0, 255);
        last.pass(1);
        Check.due("the last tale", last.told(27), 1);
    }

    private static void aboveZero() {
        Check.sentence("if above 0");
        GossipTrain x = steep("");
        x.one(0, 0, 0, 1);
        x.set(0, 0, 1);
        x.set(0, 1, 2);
        Check.due("0", x.of(0, 10), 0);
        x.pass(1);
        Check.due("0 is not told", x.told(20), 2);
        x.set(0, 1, 3);
        x.pass(1);
        Check.due("-1 is not told", x.told(20), 3);
        Check.due("no steam", x.told(2), 0);
        x.set(0, 1, 1);
        x.pass(1);
        Check.due("1 is told", x.told(20), 2);
        Check.due("a steam", x.told(2), 1);
    }

    private static void firstOfSeveral() {
        Check.sentence("of several the first");
        GossipTrain x = steep("");
        x.one(0, 0, 0, 0b11111111);
        Check.due("of all", x.of(0, 5), 0);
        x.pass(1);
        Check.due("told", x.told(20), 1);
        Check.each("not told", 21, 27, 0, what -> x.told(what));
        x.know(0, 0b11000000);
        x.pass(1);
        Check.due("of the last two", x.told(26), 1);
        Check.due("not the last", x.told(27), 0);
        x.set(2, 0, 5);
        x.set(5, 0, 5);
        x.know(0, 0b11111111);
        x.pass(1);
        Check.due("of the hottest two", x.told(22), 1);
        Check.due("not the later", x.told(25), 0);
    }

    private static void steamByGlow() {
        Check.sentence("by that STEAM is GLOW more");
        int[] kinds = {0, 1, 2, 3, 4, 5, 6};
        int[] want = {10, 12, 5, 20, 12, 3, 24};
        for (int kind : kinds) {
            GossipTrain x = steep("");
            x.set(1, 0, 5);
            x.one(kind, 2, 0, 2);
            x.row(0, 1, 4);
            x.pass(1);
            Check.due("kind " + kind, x.told(2), want[kind]);
        }
    }

    private static void oftenAtMost() {
        Check.sentence("the TALE is TOLD OFTEN once more (99 at most)");
        GossipTrain x = steep(";warm 99 t=0");
        x.one(0, 0, 0, 1);
        x.set(0, 1, 97);
        int[] often = {98, 99, 99, 99};
        int[] steam = {8, 15, 21, 27};
        for (int k = 0; k < 4; k++) {
            x.pass(1);
            Check.due("often", x.told(20), often[k]);
            Check.due("steam", x.told(2), steam[k]);
        }
        Check.due("ON", x.on(30, 20), 99);
        x.set(0, 1, 0);
        x.pass(1);
        Check.due("once", x.told(20), 1);
    }

    private static void allInCarriage() {
        Check.sentence("all who are not OFF in its CARRIAGE KNOW it");
        GossipTrain x = steep("");
        x.one(0, 0, 3, 0);
        x.one(0, 0, 2, 0);
        x.one(0, 0, 3, 0);
        x.one(0, 0, 3, 0b10000000);
        x.one(0, 0, 0, 0);
        x.one(0, 0, 3, 0b00000010);
        x.leave(2, true);
        x.set(7, 0, 9);
        x.pass(1);
        Check.due("ahead of it by number", x.of(0, 3), 0b10000000);
        Check.due("in another carriage", x.of(1, 3), 0);
        Check.due("OFF", x.of(2, 3), 0);
        Check.due("itself", x.of(3, 3), 0b10000000);
        Check.due("in the first carriage", x.of(4, 3), 0);
        Check.due("behind it by number", x.of(5, 3), 0b10000010);
        GossipTrain full = steep("");
        for (int p = 0; p < 6; p++) {
            full.one(0, 0, 1, p == 5 ? 1 : 0);
        }
        full.pass(1);
        Check.each("six in one", 0, 5, 1, p -> full.of(p, 3));
    }

    /** A train without a branch whose steam is so much behind a minute's telling: PLACE times 100 and STEAM. */
    private static int rolled(String branch, int steam) {
        GossipTrain x = Check.on("slope 99;warm 99 t=0");
        x.one(0, 0, 0, 1);
        int left = steam;
        while (left > 60) {
            x.know(0, 1);
            x.set(0, 0, 0);
            x.set(0, 1, 65);
            x.pass(1);
            left -= 34;
        }
        Check.due("steam so far", x.told(2) + 99 * x.told(3), steam - left);
        x.set(0, 0, 0);
        x.set(0, 1, 99 - left);
        x.know(0, left > 0 ? 1 : 0);
        Check.branch(x, branch + "warm 99 t=0");
        int ahead = x.told(3);
        x.pass(1);
        return (x.told(3) - ahead) * 1000 + x.told(2);
    }

    private static void wholeSlopes() {
        Check.sentence("PLACE is as many more as there are whole SLOPES in STEAM");
        Check.due("0", rolled("", 0), 0);
        Check.due("1", rolled("", 1), 1);
        Check.due("4", rolled("", 4), 4);
        Check.due("5", rolled("", 5), 1000);
        Check.due("6", rolled("", 6), 1001);
        Check.due("9", rolled("", 9), 1004);
        Check.due("10", rolled("", 10), 2000);
        Check.due("60 by 60", rolled("slope 60;", 60), 1000);
        Check.due("59 by 60", rolled("slope 60;", 59), 59);
        Check.due("60 by 99", rolled("slope 99;", 60), 60);
        Check.due("98 by 99", rolled("slope 99;", 98), 98);
    }

    private static void steps() {
        Check.sentence("20 at most");
        Check.due("18 by 1", rolled("slope 1;", 18), 18000);
        Check.due("19 by 1", rolled("slope 1;", 19), 19000);
        Check.due("20 by 1", rolled("slope 1;", 20), 20000);
        Check.due("21 by 1", rolled("slope 1;", 21), 20001);
        Check.due("22 by 1", rolled("slope 1;", 22), 20002);
        Check.due("39 by 2", rolled("slope 2;", 39), 19001);
        Check.due("40 by 2", rolled("slope 2;", 40), 20000);
        Check.due("42 by 2", rolled("slope 2;", 42), 20002);
        Check.due("95 by 5", rolled("", 95), 19000);
    }

    private static void slopeZero() {
        Check.sentence("SLOPE 0 counts as 1");
        Check.due("0", rolled("slope 0;", 0), 0);
        Check.due("1", rolled("slope 0;", 1), 1000);
        Check.due("19", rolled("slope 0;", 19), 19000);
        Check.due("20", rolled("slope 0;", 20), 20000);
        Check.due("21", rolled("slope 0;", 21), 20001);
        Check.due("told as 0", Check.on("slope 0").told(1), 0);
    }

    private static void slopesLess() {
        Check.sentence("and STEAM as many SLOPES less");
        Check.due("7 by 3", rolled("slope 3;", 7), 2001);
        Check.due("8 by 3", rolled("slope 3;", 8), 2002);
        Check.due("9 by 3", rolled("slope 3;", 9), 3000);
        Check.due("59 by 10", rolled("slope 10;", 59), 5009);
    }

    /** Six girls who tell hotter than any slope, on the least slope. */
    private static GossipTrain hot() {
        GossipTrain x = Check.on("slope 1;warm 99 v<9;warm 99 v<9;warm 99 v<9;warm 99 v<9");
        for (int p = 0; p < 6; p++) {
            x.one(1, 0, p % 4, 1 << p);
        }
        return x;
    }

    private static void steamHeld() {
        Check.sentence("STEAM and PLACE are held 9999 at most then (STEAM)");
        GossipTrain x = hot();
        // six by 396 and 6 less what each was told, 20 less
        int steam = 0;
        for (int k = 0; k < 4; k++) {
            x.pass(1);
            steam += 6 * (402 - k) - 20;
            Check.due("behind " + (k + 1), x.told(2), steam);
        }
        x.pass(1);
        Check.due("held", x.told(2), 9999);
        x.pass(1);
        Check.due("held again", x.told(2), 9999);
        Check.due("ON", x.on(30, 0), 9999);
        for (int p = 0; p < 6; p++) {
            x.leave(p, true);
        }
        x.pass(1);
        Check.due("less by a minute", x.told(2), 9979);
        Check.due("21 more than it lost", Check.branch(x, "slope 1;warm 35 p=0"), 1);
        x.leave(0, false);
        x.set(0, 1, 0);
        x.pass(1);
        Check.due("9979 and 41, less 20", x.told(2), 9999);
        // behind the steps: 9999 and 57, less 20 times 99
        Check.due("steep", Check.branch(x, "slope 99;warm 52 p=0"), 2);
        x.pass(1);
        Check.due("held behind the steps, not ahead", x.told(2), 9999 + 57 - 1980);
    }

    private static void placeHeld() {
        Check.sentence("STEAM and PLACE are held 9999 at most then (PLACE)");
        GossipTrain x = hot();
        for (int k = 0; k < 16; k++) {
            x.pass(30);
        }
        x.pass(18);
        Check.due("498 times 20", x.told(3), 9960);
        Check.due("39 more by two", x.on(2, 1), 9999);
        x.pass(1);
        Check.due("9980", x.told(3), 9980);
        for (int p = 0; p < 6; p++) {
            x.leave(p, true);
        }
        int steam = x.told(2);
        x.pass(1);
        Check.due("held", x.told(3), 9999);
        Check.due("20 slopes less all the same", x.told(2), steam - 20);
        x.pass(1);
        Check.due("held again", x.told(3), 9999);
        Check.due("20 less again", x.told(2), steam - 40);
        Check.due("no farther by a swap", x.swap(10), -5);
        Check.due("nor by a tale", x.odds(0, 10, 0), 0);
        Check.due("the last station", x.gets(99), 0);
    }

    private static void minuteMore() {
        Check.sentence("MINUTE is 1 more");
        GossipTrain x = steep(";warm 10 m=1;warm 30 m=2");
        x.one(0, 0, 0, 1);
        int[] steam = {6, 6 + 15, 6 + 15 + 34, 6 + 15 + 34 + 3};
        for (int k = 0; k < 4; k++) {
            Check.due("minute", x.pass(1), k + 1);
            Check.due("told", x.told(0), k + 1);
            Check.due("steam by the minute ahead of that", x.told(2), steam[k]);
        }
    }
}
