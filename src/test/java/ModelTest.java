import java.lang.reflect.Method;
import java.lang.reflect.Modifier;
import java.util.Arrays;
import java.util.HashMap;
import java.util.Map;

/** Many runs of drawn calls, the same each time: GossipTrain answers as the Model does, each time. */
public final class ModelTest {
    private static final int RUNS = 1500;
    private static final int CALLS = 512;
    private static final String[] NAMES = {
        "one", "of", "seat", "know", "leave", "set", "row", "feed", "branch", "told", "pass", "on", "gets",
        "hears", "best", "swap", "see", "can", "odds", "mean", "plan", "ends", "book", "looked", "judge",
        "image", "undo", "act", "trace", "taken", "count", "tape", "item", "read", "shift",
    };
    /** How often each is drawn, beside the others; feed is drawn by whole texts. */
    private static final int[] WEIGHTS = {
        3, 12, 6, 6, 4, 8, 6, 1, 2, 14, 8, 8, 4, 4, 4, 3, 6, 8, 6, 4, 8, 5, 6, 5, 6, 2, 2, 8, 4, 4, 6, 4, 8, 6, 6,
    };

    private static final Map<String, Method> METHODS = new HashMap<>();

    private static long state = 1;
    private static GossipTrain train;
    private static Model model;
    private static int left;
    private static int run;
    private static int wrongs = 0;
    private static final int[] good = new int[NAMES.length];
    private static final int[] refused = new int[NAMES.length];

    public static void main(String[] args) {
        for (run = 0; run < RUNS && wrongs < 20; run++) {
            state = run * 7919L + 17;
            train = new GossipTrain();
            model = new Model();
            left = CALLS;
            start();
            while (left > 0 && wrongs < 20) {
                draw();
            }
        }
        for (int k = 0; k < NAMES.length; k++) {
            Check.holds(NAMES[k] + " was answered well", good[k] > 100);
            boolean isNeverRefused = Arrays.asList("ends", "looked", "image", "undo").contains(NAMES[k]);
            Check.holds(NAMES[k] + " was refused", refused[k] > 20 || isNeverRefused);
        }
        Check.due("wrong answers", wrongs, 0);
        Check.end("ModelTest");
    }

    private static int below(int n) {
        state = state * 6364136223846793005L + 1442695040888963407L;
        return (int) ((state >>> 33) % n);
    }

    /** Mostly 0 .. n - 1, at times beside it or far off. */
    private static int near(int n) {
        if (n > 0 && below(14) > 0) {
            return below(n);
        }
        int[] off = {-1, n, -2, n + 1, Integer.MIN_VALUE, Integer.MAX_VALUE, 0};
        return off[below(off.length)];
    }

    private static int person() {
        return near(model.count(0));
    }

    private static void start() {
        int many = below(8);
        for (int k = 0; k < many; k++) {
            call(0, below(7), below(10), below(1 + below(4)), below(2) == 0 ? 1 << below(8) : below(256));
        }
        int hot = below(9);
        for (int k = 0; k < hot; k++) {
            call(5, below(8), below(2), below(10));
        }
        if (below(3) > 0) {
            feedText();
        }
        if (below(40) == 0) {
            for (int k = 0; k < 335; k++) {
                call(10, 30);
            }
        }
    }

    private static void feedText() {
        StringBuilder text = new StringBuilder();
        int clauses = below(12) == 0 ? 12 : 1 + below(4);
        for (int k = 0; k < clauses; k++) {
            text.append(k == 0 ? "" : ";").append(clause());
        }
        if (below(4) == 0 && text.length() > 0) {
            text.setCharAt(below(text.length()), "pwsa1;(!)&| =".charAt(below(13)));
        }
        if (below(8) == 0) {
            text.setLength(below(text.length() + 1));
        }
        for (int k = 0; k < text.length(); k++) {
            call(7, text.charAt(k));
        }
        call(8);
    }

    private static String clause() {
        if (below(3) == 0) {
            return "slope " + below(below(2) == 0 ? 12 : 100);
        }
        return (below(3) == 0 ? "shame " : "warm ") + below(below(3) == 0 ? 100 : 20) + " " + expression(0);
    }

    private static String expression(int deep) {
        String text = factor(deep);
        while (below(3) == 0) {
            text = text + (below(2) == 0 ? "|" : "&") + factor(deep);
        }
        return text;
    }

    private static String factor(int deep) {
        if (below(4) == 0 && deep < 6) {
            return below(2) == 0 ? "!" + factor(deep + 1) : "(" + expression(deep + 1) + ")";
        }
        return "" + "pkvtom".charAt(below(6)) + "<=>".charAt(below(3)) + below(below(6) == 0 ? 100 : 9);
    }

    private static void draw() {
        int sum = 0;
        for (int weight : WEIGHTS) {
            sum += weight;
        }
        int drawn = below(sum);
        int which = 0;
        while (drawn >= WEIGHTS[which]) {
            drawn -= WEIGHTS[which];
            which++;
        }
        if (which == 8) {
            if (below(3) == 0) {
                feedText();
            }
        } else {
            drawOne(which);
        }
    }

    private static void drawOne(int which) {
        switch (which) {
            case 0: call(which, near(7), near(10), near(4), near(256)); break;
            case 1: call(which, person(), below(3) == 0 ? near(19) : 10 + below(8)); break;
            case 2: call(which, person(), near(4)); break;
            case 3: call(which, person(), below(3) == 0 ? 1 << below(8) : near(256)); break;
            case 4: call(which, person(), below(2)); break;
            case 5: int what = near(2); call(which, near(8), what, near(below(2) == 0 ? 10 : 100)); break;
            case 6: call(which, person(), near(4), near(10)); break;
            case 7: call(which, below(2) == 0 ? near(128) : 'w'); break;
            case 9: call(which, near(40)); break;
            case 10: call(which, near(below(2) == 0 ? 31 : 4)); break;
            case 11: call(which, near(31), near(30)); break;
            case 12: call(which, near(below(2) == 0 ? 100 : 12)); break;
            case 13: call(which, person(), near(8)); break;
            case 14: call(which, person(), 1 + near(10)); break;
            case 15: call(which, 1 + near(10)); break;
            case 16: seeOne(); break;
            case 17: canOne(); break;
            case 18: call(which, person(), near(11), near(2)); break;
            case 19: call(which, near(31), near(2)); break;
            default: drawLater(which); break;
        }
    }

    private static void seeOne() {
        int p = person();
        int tale = near(8);
        if (below(5) == 0) {
            call(16, -1, tale, below(100));
        } else if (below(3) == 0) {
            call(16, p, tale, near(100));
        } else {
            int glow = Math.max(0, model.of(p, 10 + Math.max(0, Math.min(tale, 7))));
            call(16, p, tale, Math.max(0, glow - below(3)));
        }
    }

    private static void canOne() {
        int what = near(2);
        call(17, what, what == 0 ? person() : near(8), near(2));
    }

    private static void drawLater(int which) {
        switch (which) {
            case 20: planOne(); break;
            case 21: call(which, near(2)); break;
            case 22: int p = person(); call(which, below(9) == 0 ? -1 : p, below(4) == 0 ? near(256) : model.of(p, 3)); break;
            case 24: call(which, near(6), near(below(2) == 0 ? 5 : 61)); break;
            case 27: call(which, person(), near(3), below(3) == 0 ? near(1) : below(100)); break;
            case 28: call(which, near(14)); break;
            case 29: call(which, person(), near(7)); break;
            case 30: call(which, near(7)); break;
            case 31: call(which, near(6), below(2) == 0 ? 1 : near(6) - 1, near(below(2) == 0 ? 61 : 8)); break;
            case 32: itemOne(); break;
            case 33: call(which, near(6), near(below(2) == 0 ? 5 : 61)); break;
            case 34: call(which, near(6), near(4), near(6), near(4), near(6)); break;
            default: call(which); break;
        }
    }

    private static void planOne() {
        int what = below(8) == 0 ? near(5) - 1 : below(2) == 0 ? 0 : 1 + below(3);
        int p = person();
        call(20, what, what == 3 && below(9) > 0 ? 10 * below(6) + near(4) : p);
    }

    private static void itemOne() {
        int i = near(below(2) == 0 ? 5 : 61);
        if (below(3) == 0) {
            call(32, near(6), i, near(2), below(100000));
        } else {
            call(32, near(6), i, 0, Math.max(0, model.of(i, 3)));
        }
    }

    private static void call(int which, int... a) {
        if (left == 0) {
            return;
        }
        left--;
        int[] five = Arrays.copyOf(a, 5);
        long got = answer(train, NAMES[which], five);
        long want = answer(model, NAMES[which], five);
        if (want >= 0 || want == -5) {
            good[which]++;
        } else {
            refused[which]++;
        }
        if (got != want) {
            wrongs++;
            System.out.println("run " + run + ", call " + (CALLS - left) + ": " + NAMES[which] + Arrays.toString(a)
                + " answered " + got + ", the model " + want);
        }
    }

    /** Both have methods of these names; a long is told by the last two numbers, as its halves. */
    private static long answer(Object x, String name, int[] a) {
        Method method = METHODS.computeIfAbsent(x.getClass().getName() + "." + name, key -> methodOf(x, name));
        return invoked(x, method, a);
    }

    private static Method methodOf(Object x, String name) {
        for (Method method : x.getClass().getDeclaredMethods()) {
            if (method.getName().equals(name) && !Modifier.isPrivate(method.getModifiers())) {
                return method;
            }
        }
        throw new IllegalStateException("no method " + name);
    }

    private static long invoked(Object x, Method method, int[] a) {
        Class<?>[] types = method.getParameterTypes();
        Object[] given = new Object[types.length];
        for (int k = 0; k < types.length; k++) {
            given[k] = types[k] == boolean.class ? (Object) (a[k] == 1)
                : types[k] == long.class ? (Object) ((long) a[k] << 32 | a[k + 1] & 0xffffffffL) : (Object) a[k];
        }
        try {
            return ((Number) method.invoke(x, given)).longValue();
        } catch (ReflectiveOperationException e) {
            throw new IllegalStateException(method.getName(), e);
        }
    }
}
