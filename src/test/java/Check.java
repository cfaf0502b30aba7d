import java.util.function.IntToLongFunction;

/** Compares answers, tells the wrong ones, and ends the program with 1 if there was one. */
final class Check {
    static final int LEAST = Integer.MIN_VALUE;
    static final int GREATEST = Integer.MAX_VALUE;

    private static int right = 0;
    private static int wrong = 0;
    private static int sentences = 0;
    private static int sinceSentence = 1;
    private static String sentence = "";

    private Check() {
    }

    /** What follows holds to these words of the document; a sentence that nothing follows is a wrong one. */
    static void sentence(String words) {
        closeSentence();
        sentences++;
        sinceSentence = 0;
        sentence = "\"" + words + "\": ";
    }

    private static void closeSentence() {
        if (sinceSentence == 0) {
            wrong++;
            System.out.println(sentence + "nothing was tried");
        }
    }

    static void due(String call, long got, long want) {
        sinceSentence++;
        if (got == want) {
            right++;
            return;
        }
        wrong++;
        System.out.println(sentence + call + " answered " + got + ", due is " + want);
    }

    static void holds(String what, boolean is) {
        due(what, is ? 1 : 0, 1);
    }

    /** All of first .. last answer want. */
    static void each(String call, int first, int last, long want, IntToLongFunction asked) {
        for (int n = first; n <= last; n++) {
            due(call + " by " + n, asked.applyAsLong(n), want);
        }
    }

    /** One below first, one above last, and the least and the greatest int answer want. */
    static void outside(String call, int first, int last, long want, IntToLongFunction asked) {
        int[] numbers = {first - 1, last + 1, LEAST, GREATEST, LEAST + 1, GREATEST - 1};
        for (int n : numbers) {
            due(call + " by " + n, asked.applyAsLong(n), want);
        }
    }

    /** As outside, but -1 means something of its own. */
    static void outsideButMinusOne(String call, int last, long want, IntToLongFunction asked) {
        int[] numbers = {-2, last + 1, LEAST, GREATEST, LEAST + 1, GREATEST - 1};
        for (int n : numbers) {
            due(call + " by " + n, asked.applyAsLong(n), want);
        }
    }

    static void end(String name) {
        closeSentence();
        String of = sentences == 0 ? "" : ", of " + sentences + " sentences";
        System.out.println(name + ": " + right + " right, " + wrong + " wrong" + of);
        if (wrong != 0 || right == 0) {
            System.exit(1);
        }
    }

    static void feed(GossipTrain train, String text) {
        int ahead = train.count(5);
        for (int k = 0; k < text.length(); k++) {
            due("feed of " + text + " at " + k, train.feed(text.charAt(k)), ahead + k + 1);
        }
    }

    /** What branch() answers to a text, fed behind nothing. */
    static int branch(GossipTrain train, String text) {
        feed(train, text);
        return train.branch();
    }

    /** A new object on which this text is the first branch. */
    static GossipTrain on(String text) {
        GossipTrain train = new GossipTrain();
        due("branch of " + text, branch(train, text), 0);
        return train;
    }

    /** One passenger of each of the first six kinds, by number, all knowing every tale, each in a carriage. */
    static GossipTrain ofKinds(int... kinds) {
        GossipTrain train = new GossipTrain();
        for (int k = 0; k < kinds.length; k++) {
            due("one " + k, train.one(kinds[k], k + 1, k % 4, 255), k);
        }
        return train;
    }
}
