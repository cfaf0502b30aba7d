/** 'Terms', part 2, on what is told by hand, odds and means: a method for each sentence that names a bound. */
public final class HandBoundsTest {
    public static void main(String[] args) {
        seenGlow();
        seenRows();
        canHowMany();
        canLeast();
        canNone();
        staleHowMany();
        staleLeast();
        staleNone();
        oddsMinutes();
        oddsOneMore();
        oddsBesideWhatItKnows();
        oddsLowest();
        meanMinutes();
        meanTogether();
        meanLowest();
        meanNone();
        planWhat();
        planCarriage();
        planRows();
        endsRows();
        endsEmpty();
        bookRows();
        lookedFirst();
        lookedNone();
        Check.end("HandBoundsTest");
    }

    private static void seenGlow() {
        Check.sentence("SEEN: what it would GLOW with that now (0 .. 99, as it burns)");
        GossipTrain x = Check.on("warm 99 t=7");
        x.one(0, 0, 0, 0);
        x.set(7, 0, 0);
        x.set(3, 0, 0);
        Check.outside("glow", 0, 99, -2, glow -> x.see(0, 7, glow));
        Check.due("none came", x.count(2), 0);
        Check.due("99", x.see(0, 7, 99), 1);
        Check.due("so if fresh", x.can(1, 7, 0), 1);
        Check.due("fresh", x.can(1, 7, 1), 0);
        Check.due("0", x.see(0, 3, 0), 2);
        Check.due("so by each, 0 as below 0", x.can(1, 3, 0), 100);
        Check.due("1", x.see(0, 3, 1), 3);
        Check.due("so by none", x.can(1, 3, 0), 0);
        GossipTrain hot = Check.on("warm 99 t=7");
        hot.one(0, 0, 0, 0);
        hot.see(0, 7, 99);
        Check.due("105 is not 99", hot.can(0, 0, 0), 0);
        Check.due("99 by 6", hot.can(1, 7, 1), 6);
    }

    private static void seenRows() {
        Check.sentence("SEEN: 5 rows at most");
        GossipTrain x = new GossipTrain();
        x.one(0, 0, 0, 0);
        Check.each("row", 1, 5, 0, n -> x.see(0, n, 6) - n);
        Check.due("a sixth", x.see(0, 7, 7), -4);
        Check.due("five", x.count(2), 5);
        Check.due("the sixth is none", x.can(1, 7, 0), 100);
        Check.due("the fifth is", x.can(1, 5, 0), 1);
        Check.due("the first is", x.can(1, 1, 0), 1);
        Check.due("none then", x.see(-1, 0, 0), 0);
        Check.due("none", x.count(2), 0);
        Check.due("the first is none", x.can(1, 1, 0), 100);
        Check.each("row anew", 1, 5, 0, n -> x.see(0, n, 6) - n);
    }

    private static void canHowMany() {
        Check.sentence("CAN: how many numbers v (0 .. 9) there are by which all of SEEN that is of it is so");
        GossipTrain x = new GossipTrain();
        x.one(0, 5, 0, 0);
        x.one(1, 5, 0, 0);
        Check.due("none of it is seen", x.can(0, 0, 0), 10);
        x.see(1, 0, 99);
        Check.due("another's is not its", x.can(0, 0, 0), 10);
        Check.due("none", x.can(0, 1, 0), 0);
        x.see(-1, 0, 0);
        x.see(0, 0, 6);
        Check.due("whatever its v", x.can(0, 0, 0), 10);
        Check.branch(x, "warm 1 v<9");
        x.see(0, 1, 7);
        Check.due("not both", x.can(0, 0, 0), 0);
        x.see(-1, 0, 0);
        x.see(0, 1, 7);
        Check.due("0 .. 8", x.can(0, 0, 0), 9);
        x.see(-1, 0, 0);
        x.see(0, 1, 6);
        Check.due("9 alone", x.can(0, 0, 0), 1);
        Check.due("its v is as it was", x.of(0, 1), 5);
        GossipTrain vicar = new GossipTrain();
        vicar.one(5, 0, 0, 0);
        vicar.see(0, 0, 0);
        Check.due("3 .. 9, 0 as below 0", vicar.can(0, 0, 0), 7);
        vicar.set(0, 0, 9);
        Check.due("9 alone", vicar.can(0, 0, 0), 1);
    }

    private static void canLeast() {
        Check.sentence("CAN: the least");
        GossipTrain x = new GossipTrain();
        x.one(1, 5, 0, 0);
        Check.due("of all", x.can(0, 0, 1), 0);
        for (int glow = 6; glow <= 15; glow++) {
            x.see(-1, 0, 0);
            x.see(0, 0, glow);
            Check.due("one", x.can(0, 0, 0), 1);
            Check.due("by " + glow, x.can(0, 0, 1), glow - 6);
        }
        Check.branch(x, "shame 99 v<4");
        x.see(-1, 0, 0);
        x.see(0, 0, 0);
        Check.due("0 .. 3", x.can(0, 0, 0), 4);
        Check.due("least 0", x.can(0, 0, 1), 0);
        Check.branch(x, "shame 99 v>3");
        Check.due("4 .. 9", x.can(0, 0, 0), 6);
        Check.due("least 4", x.can(0, 0, 1), 4);
    }

    private static void canNone() {
        Check.sentence("CAN: (-5: none)");
        GossipTrain x = new GossipTrain();
        x.one(1, 5, 0, 0);
        x.see(0, 0, 5);
        Check.due("v would be -1: none", x.can(0, 0, 0), 0);
        Check.due("no least", x.can(0, 0, 1), -5);
        x.see(-1, 0, 0);
        x.see(0, 0, 16);
        Check.due("v would be 10: none", x.can(0, 0, 0), 0);
        Check.due("no least", x.can(0, 0, 1), -5);
    }

    private static void staleHowMany() {
        Check.sentence("STALE: how many numbers (0 .. 99) there are by which all of SEEN that is of it is so");
        GossipTrain x = new GossipTrain();
        x.one(0, 0, 0, 0);
        x.one(2, 0, 0, 0);
        x.set(4, 1, 50);
        Check.due("none of it is seen", x.can(1, 4, 0), 100);
        x.see(0, 3, 50);
        Check.due("another's is not its", x.can(1, 4, 0), 100);
        Check.due("none", x.can(1, 3, 0), 0);
        x.see(0, 4, 0);
        Check.due("6 .. 99", x.can(1, 4, 0), 94);
        x.see(1, 4, 0);
        Check.due("5 .. 99 too", x.can(1, 4, 0), 94);
        x.see(-1, 0, 0);
        x.see(1, 4, 0);
        Check.due("5 .. 99", x.can(1, 4, 0), 95);
        Check.branch(x, "warm 99 o=99");
        Check.due("not 99", x.can(1, 4, 0), 94);
        Check.due("it is as it was", x.told(24), 50);
    }

    private static void staleLeast() {
        Check.sentence("STALE: the least");
        GossipTrain x = Check.on("warm 93 p=0");
        x.one(0, 0, 0, 0);
        Check.due("of all", x.can(1, 0, 1), 0);
        for (int often = 0; often <= 99; often += often == 0 || often == 98 ? 1 : 97) {
            x.see(-1, 0, 0);
            x.see(0, 0, 99 - often);
            Check.due("by " + often, x.can(1, 0, 1), often);
        }
        Check.due("one of 99, as 100 would be", x.can(1, 0, 0), 1);
        Check.branch(x, "warm 99 p=0;warm 6 o<99");
        x.see(-1, 0, 0);
        x.see(0, 0, 6);
        Check.due("99 alone", x.can(1, 0, 0), 1);
        Check.due("least 99", x.can(1, 0, 1), 99);
        GossipTrain fresh = new GossipTrain();
        fresh.one(3, 0, 0, 0);
        fresh.set(0, 1, 7);
        fresh.see(0, 0, 12);
        Check.due("0 alone", fresh.can(1, 0, 0), 1);
        Check.due("least 0", fresh.can(1, 0, 1), 0);
    }

    private static void staleNone() {
        Check.sentence("STALE: (-5: none)");
        GossipTrain x = new GossipTrain();
        x.one(0, 0, 0, 0);
        x.see(0, 0, 7);
        Check.due("often would be -1: none", x.can(1, 0, 0), 0);
        Check.due("no least", x.can(1, 0, 1), -5);
        GossipTrain y = Check.on("warm 99 p=0");
        y.one(0, 0, 0, 0);
        y.see(0, 0, 5);
        Check.due("often would be 100: none", y.can(1, 0, 0), 0);
        Check.due("no least", y.can(1, 0, 1), -5);
    }

    private static void oddsMinutes() {
        Check.sentence("ODDS of a PASSENGER and n MINUTES (0 .. 10)");
        GossipTrain x = Check.on("slope 0;shame 90 m<9");
        x.one(0, 0, 0, 0);
        Check.outside("n", 0, 10, GossipTrain.NO, n -> x.odds(0, n, 0));
        Check.each("too few: above", 0, 9, 0, n -> x.odds(0, n, 0));
        Check.each("too few: below", 0, 9, 1, n -> x.odds(0, n, 1));
        Check.due("in 10: above", x.odds(0, 10, 0), 1);
        Check.due("in 10: below", x.odds(0, 10, 1), 1);
        Check.branch(x, "slope 0");
        Check.due("0 minutes", x.odds(0, 0, 0), 0);
        Check.due("a minute", x.odds(0, 1, 0), 1);
    }

    private static void oddsOneMore() {
        Check.sentence("if it KNEW one more TALE now, each of 8 alike likely: how likely PLACE is farther");
        GossipTrain x = new GossipTrain();
        x.one(0, 0, 0, 0);
        for (int t = 0; t < 8; t++) {
            x.set(t, 0, 2);
        }
        Check.due("4 steam: above", x.odds(0, 1, 0), 0);
        Check.due("4 steam: below", x.odds(0, 1, 1), 1);
        x.set(0, 0, 3);
        Check.due("6 steam by tale 0: above", x.odds(0, 1, 0), 1);
        Check.due("6 steam by tale 0: below", x.odds(0, 1, 1), 8);
        x.set(0, 0, 2);
        x.set(7, 0, 3);
        Check.due("6 steam by tale 7: above", x.odds(0, 1, 0), 1);
        Check.due("6 steam by tale 7: below", x.odds(0, 1, 1), 8);
        x.know(0, 0b10000000);
        Check.due("what it knows is no more", x.odds(0, 1, 0), 0);
        x.set(3, 0, 5);
        Check.due("one of 8 that it did not know", x.odds(0, 1, 1), 8);
        x.know(0, 255);
        Check.due("knows all", x.odds(0, 10, 0), 0);
        Check.due("knows all: of 1", x.odds(0, 10, 1), 1);
        Check.due("nothing changed", x.of(0, 3), 255);
    }

    private static void oddsBesideWhatItKnows() {
        Check.sentence("if it KNEW one more TALE now (beside what it KNOWS)");
        GossipTrain x = Check.on("slope 12");
        x.one(0, 0, 0, 1);
        Check.due("6 and 5: none is won", x.on(2, 1), 0);
        Check.due("6 and 6 by one more, of 7: above", x.odds(0, 2, 0), 7);
        Check.due("6 and 6 by one more, of 7: below", x.odds(0, 2, 1), 8);
        x.know(0, 0b10000000);
        Check.due("the same by tale 7", x.odds(0, 2, 0), 7);
        x.set(0, 0, 2);
        Check.due("tale 0 is colder by 2", x.odds(0, 2, 0), 3);
        Check.due("of 4", x.odds(0, 2, 1), 4);
    }

    private static void oddsLowest() {
        Check.sentence("ODDS: a fraction in lowest terms");
        int[] above = {0, 1, 1, 3, 1, 5, 3, 7, 1};
        int[] below = {1, 8, 4, 8, 2, 8, 4, 8, 1};
        GossipTrain x = new GossipTrain();
        x.one(0, 0, 0, 0);
        for (int many = 0; many <= 8; many++) {
            for (int t = 0; t < 8; t++) {
                x.set(t, 0, t < many ? 3 : 0);
            }
            Check.due(many + " of 8: above", x.odds(0, 1, 0), above[many]);
            Check.due(many + " of 8: below", x.odds(0, 1, 1), below[many]);
        }
    }

    private static void meanMinutes() {
        Check.sentence("MEAN of n MINUTES (0 .. 30)");
        GossipTrain x = Check.on("shame 99 p=1;warm 99 t=0&p=0&o<29;shame 99 t=0&o>28");
        x.one(0, 0, 2, 0b11);
        x.one(0, 0, 2, 0);
        Check.outside("n: above", 0, 30, GossipTrain.NO, n -> x.mean(n, 0));
        Check.outside("n: below", 0, 30, GossipTrain.NO, n -> x.mean(n, 1));
        Check.due("2 by 2: above", x.mean(0, 0), 1);
        Check.due("2 by 2: below", x.mean(0, 1), 1);
        Check.each("3 by 2: above", 1, 29, 3, n -> x.mean(n, 0));
        Check.each("3 by 2: below", 1, 29, 2, n -> x.mean(n, 1));
        Check.due("4 by 2: above", x.mean(30, 0), 2);
        Check.due("4 by 2: below", x.mean(30, 1), 1);
        Check.due("nothing changed", x.of(1, 3), 0);
    }

    private static void meanTogether() {
        Check.sentence("how many TALES all KNOW behind n, together, by how many they are");
        GossipTrain x = new GossipTrain();
        for (int p = 0; p < 6; p++) {
            x.one(p, 0, p % 4, 0);
            x.leave(p, p % 2 == 0);
        }
        int[] above = {0, 1, 1, 1, 2, 5, 1, 7, 4};
        int[] below = {1, 6, 3, 2, 3, 6, 1, 6, 3};
        for (int many = 0; many <= 8; many++) {
            Check.due(many + " by 6: above", x.mean(0, 0), above[many]);
            Check.due(many + " by 6: below", x.mean(0, 1), below[many]);
            x.know(many % 6, x.of(many % 6, 3) | 1 << Math.min(many, 7));
        }
        for (int p = 0; p < 6; p++) {
            x.know(p, 255);
        }
        Check.due("48 by 6: above", x.mean(30, 0), 8);
        Check.due("48 by 6: below", x.mean(30, 1), 1);
    }

    private static void meanLowest() {
        Check.sentence("MEAN: a fraction in lowest terms");
        for (int many = 1; many <= 6; many++) {
            GossipTrain x = new GossipTrain();
            for (int p = 0; p < many; p++) {
                x.one(0, 0, 0, p == 0 ? 0b1111 : 0);
                x.leave(p, true);
            }
            int[] above = {0, 4, 2, 4, 1, 4, 2};
            int[] below = {0, 1, 1, 3, 1, 5, 3};
            Check.due("4 by " + many + ": above", x.mean(3, 0), above[many]);
            Check.due("4 by " + many + ": below", x.mean(3, 1), below[many]);
        }
    }

    private static void meanNone() {
        Check.sentence("MEAN: (NO: there are none)");
        GossipTrain x = new GossipTrain();
        Check.each("no one: above", 0, 30, GossipTrain.NO, n -> x.mean(n, 0));
        Check.each("no one: below", 0, 30, GossipTrain.NO, n -> x.mean(n, 1));
        x.one(0, 0, 0, 0);
        Check.due("one who knows none: above", x.mean(0, 0), 0);
        Check.due("one who knows none: below", x.mean(0, 1), 1);
    }

    private static void planWhat() {
        Check.sentence("A PLAN: what goes (0 a MINUTE, 1 PASSENGER n is OFF, 2 it is not)");
        GossipTrain x = Check.on("slope 99");
        x.one(0, 0, 0, 1);
        x.one(0, 0, 1, 2);
        x.leave(1, true);
        x.plan(0, 7);
        Check.due("a minute", x.ends(1), 6);
        x.plan(2, 1);
        Check.due("ahead of a minute", x.ends(1), 6);
        x.plan(0, -7);
        Check.due("5 and 6", x.ends(1), 17);
        x.plan(1, 0);
        x.plan(1, 0);
        x.plan(0, 0);
        Check.due("5 of the other", x.ends(1), 22);
        x.plan(2, 0);
        x.plan(0, 0);
        Check.due("4 and 4", x.ends(1), 30);
        Check.due("none is OFF by that", x.of(0, 4), 0);
        Check.due("one is, as it was", x.of(1, 4), 1);
        Check.outside("person, OFF", 0, 1, -1, n -> x.plan(1, n));
        Check.outside("person, not OFF", 0, 1, -1, n -> x.plan(2, n));
    }

    private static void planCarriage() {
        Check.sentence("3 PASSENGER comes to a CARRIAGE, told as 10 times its number and that");
        GossipTrain x = new GossipTrain();
        for (int p = 0; p < 6; p++) {
            x.one(0, 0, 0, 0);
        }
        for (int n = -40; n <= 120; n++) {
            boolean is = n >= 0 && n / 10 < 6 && n % 10 < 4;
            Check.due("carriage by " + n, x.plan(3, n), is ? 1 : -1);
            x.plan(-1, 0);
        }
        Check.outside("carriage", 0, 53, -1, n -> x.plan(3, n));
        x.know(0, 1);
        x.seat(0, 3);
        x.plan(3, 53);
        x.plan(0, 0);
        Check.due("0 and 5: 6 and 5", x.ends(0) * 5 + x.ends(1), 11);
        x.plan(3, 2);
        x.plan(0, 0);
        Check.due("both apart: 4 and 3", x.ends(0) * 5 + x.ends(1), 18);
        x.plan(3, 42);
        x.plan(0, 0);
        Check.due("4 and 0, 5 apart: 2, 1 and 0", x.ends(0) * 5 + x.ends(1), 21);
        Check.due("none has come by that", x.of(5, 2), 0);
    }

    private static void planRows() {
        Check.sentence("A PLAN: 10 rows at most");
        GossipTrain x = new GossipTrain();
        x.one(0, 0, 0, 1);
        x.set(0, 0, 9);
        Check.each("row", 1, 10, 0, n -> x.plan(0, n) - n);
        Check.due("an eleventh", x.plan(0, 0), -4);
        Check.due("ten", x.count(3), 10);
        Check.due("ten minutes: place", x.ends(0), x.on(10, 1));
        Check.due("ten minutes: steam", x.ends(1), x.on(10, 0));
        Check.due("empty then", x.plan(-1, 0), 0);
        Check.due("none", x.count(3), 0);
        Check.each("row anew", 1, 10, 0, n -> x.plan(0, n) - n);
    }

    private static void endsRows() {
        Check.sentence("ENDS: PLACE; STEAM");
        GossipTrain x = new GossipTrain();
        x.one(0, 0, 0, 1);
        x.set(0, 0, 9);
        int steam = 0;
        for (int k = 0; k < 10; k++) {
            x.plan(0, 0);
            steam += 18 - k;
            Check.due("place by " + (k + 1), x.ends(0), steam / 5);
            Check.due("steam by " + (k + 1), x.ends(1), steam % 5);
        }
        Check.outside("what", 0, 1, -1, what -> x.ends(what));
        Check.due("no minute has gone", x.told(0), 0);
    }

    private static void endsEmpty() {
        Check.sentence("ENDS by an empty PLAN (as it is now)");
        GossipTrain x = new GossipTrain();
        Check.due("at first: place", x.ends(0), 0);
        Check.due("at first: steam", x.ends(1), 0);
        x.one(0, 0, 0, 1);
        x.pass(2);
        Check.due("place", x.ends(0), 2);
        Check.due("steam", x.ends(1), 1);
        x.plan(0, 0);
        Check.due("a minute", x.ends(0), 3);
        x.plan(-1, 0);
        Check.due("empty again", x.ends(0), 2);
    }

    private static void bookRows() {
        Check.sentence("A BOOK: PASSENGERS, TALES they KNOW (bits; 8 at most)");
        GossipTrain x = new GossipTrain();
        x.one(0, 0, 0, 0);
        x.one(0, 0, 0, 255);
        Check.outside("knows", 0, 255, -2, knows -> x.book(0, knows));
        Check.due("none came", x.count(4), 0);
        Check.due("0", x.book(0, 0), 1);
        Check.due("255", x.book(1, 255), 2);
        Check.each("row", 3, 7, 0, n -> x.book(0, 0) - n);
        Check.due("the eighth", x.book(1, 254), 8);
        Check.due("a ninth", x.book(0, 1), -4);
        Check.due("eight", x.count(4), 8);
        Check.due("the eighth is otherwise", x.looked(), 7);
        x.know(1, 254);
        Check.due("the second is", x.looked(), 1);
        Check.due("empty then", x.book(-1, 0), 0);
        Check.due("none", x.count(4), 0);
        Check.each("row anew", 1, 8, 0, n -> x.book(0, 0) - n);
    }

    private static void lookedFirst() {
        Check.sentence("LOOKED at: the number (from 0) of the first of these rows by which it is otherwise now");
        GossipTrain x = new GossipTrain();
        for (int p = 0; p < 6; p++) {
            x.one(0, 0, 0, 1 << p);
        }
        for (int k = 0; k < 8; k++) {
            x.book(k % 6, 1 << k % 6);
        }
        for (int p = 5; p >= 0; p--) {
            x.know(p, 0);
            Check.due("otherwise from " + p, x.looked(), p);
        }
        for (int p = 0; p < 6; p++) {
            Check.due("otherwise still from " + p, x.looked(), p);
            x.know(p, 1 << p);
        }
        Check.due("by less", x.know(1, 0), 2);
        Check.due("is otherwise", x.looked(), 1);
        x.know(1, 3);
        Check.due("by more", x.looked(), 1);
        x.know(1, 2);
        x.pass(1);
        Check.due("by a minute", x.looked(), 0);
    }

    private static void lookedNone() {
        Check.sentence("LOOKED at: (-5: none)");
        GossipTrain x = new GossipTrain();
        Check.due("no one, no row", x.looked(), -5);
        x.one(0, 0, 0, 255);
        Check.due("no row", x.looked(), -5);
        for (int k = 0; k < 8; k++) {
            x.book(0, 255);
            Check.due("all are so", x.looked(), -5);
        }
        x.leave(0, true);
        Check.due("OFF is not otherwise", x.looked(), -5);
    }
}
