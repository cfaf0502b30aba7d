/** Compares answers, tells the wrong ones, and ends the program with 1 if there was one. */
final class Check {
    private static int right = 0;
    private static int wrong = 0;

    private Check() {
    }

    static void due(String call, long got, long want) {
        if (got == want) {
            right++;
            return;
        }
        wrong++;
        System.out.println(call + " answered " + got + ", due is " + want);
    }

    static void holds(String what, boolean is) {
        due(what, is ? 1 : 0, 1);
    }

    static void end(String name) {
        System.out.println(name + ": " + right + " right, " + wrong + " wrong");
        if (wrong != 0 || right == 0) {
            System.exit(1);
        }
    }

    static void feed(GossipTrain train, String text) {
        for (int k = 0; k < text.length(); k++) {
            due("feed of " + text + " at " + k, train.feed(text.charAt(k)), train.count(5));
        }
    }

    /** What branch() answers to a text, fed behind nothing. */
    static int branch(GossipTrain train, String text) {
        feed(train, text);
        return train.branch();
    }

    /** One passenger of each of the first six kinds, by number, all knowing every tale, each in a carriage. */
    static GossipTrain ofKinds(int... kinds) {
        GossipTrain train = new GossipTrain();
        for (int k = 0; k < kinds.length; k++) {
            due("one " + k, train.one(kinds[k], k + 1, k % 4, 255), k);
        }
        return train;
    }
}
