import java.util.function.IntSupplier;

/** What the tests share: each sentence's runs by itself, and is told by its sentence if an answer isn't as due. */
abstract class Checks {
    static final int BAD = -1, FULL = -2, FINDING = -3, STATE = -4, SPENT = -6, NONE = -9;
    static final int NOTHING = 1, BEYOND = 2, UNLIKE = 3, NOUGHT = 4, SIZE = 5;
    static final int LEAST = Integer.MIN_VALUE, MOST = Integer.MAX_VALUE;
    static final int UP = 0, RIGHT = 1, DOWN = 2, LEFT = 3, LIGHT = 4;

    private static int sentences = 0;
    private static int wrong = 0;
    private static int number = 0;
    private static String heading = "";

    /** Promise 0 stands for the document's Terms. */
    static void test(int promise, String sentence, Runnable body) {
        sentences++;
        number = 0;
        heading = (promise == 0 ? "Terms" : "promise " + promise) + " \"" + sentence + "\"";
        try {
            body.run();
        } catch (RuntimeException | StackOverflowError thrown) {
            fail("threw " + thrown);
        }
    }

    /** What follows belongs to a promise as a whole. */
    static void promise(int promise) {
        sentences++;
        number = 0;
        heading = "promise " + promise;
    }

    static void fail(String what) {
        wrong++;
        System.out.println(heading + ", answer " + number + ": " + what);
    }

    static void due(long got, long want) {
        number++;
        if (got != want) {
            fail(got + ", due is " + want);
        }
    }

    /** An answer with what asked() tells beside it. */
    static void due(OwnLight x, long got, long want, long aside) {
        due(got, want);
        due(x.asked(), aside);
    }

    static void dueFraction(OwnLight x, long upper, long lower) {
        due(x.upper(), upper);
        due(x.lower(), lower);
    }

    /** All that can be told of an object, but its FINDINGS. */
    private static long[] told(OwnLight x) {
        return new long[] {x.digest(), x.asked(), x.upper(), x.lower()};
    }

    private static int[] findings(OwnLight x) {
        int[] all = new int[6];
        all[0] = x.finding();
        for (int f = 1; f <= 5; f++) {
            all[f] = x.findings(f);
        }
        return all;
    }

    private static void same(OwnLight x, long[] before) {
        long[] now = told(x);
        for (int i = 0; i < now.length; i++) {
            due(now[i], before[i]);
        }
    }

    /** An answer that changes nothing at all: BAD, FULL, STATE, NONE, or what only looks. */
    static void stays(OwnLight x, int answer, IntSupplier call) {
        long[] before = told(x);
        int[] found = findings(x);
        due(call.getAsInt(), answer);
        same(x, before);
        int[] now = findings(x);
        for (int f = 0; f <= 5; f++) {
            due(now[f], found[f]);
        }
    }

    /** A refusal by a FINDING: it is told by finding(), counted by findings(), and nothing else changes. */
    static void found(OwnLight x, int finding, IntSupplier call) {
        long[] before = told(x);
        int[] found = findings(x);
        due(call.getAsInt(), FINDING);
        same(x, before);
        int[] now = findings(x);
        due(now[0], finding);
        for (int f = 1; f <= 5; f++) {
            due(now[f], found[f] + (f == finding ? 1 : 0));
        }
    }

    static OwnLight withText(OwnLight x, int t, String s) {
        x.text(t, s.length());
        for (int i = 0; i < s.length(); i++) {
            x.put(t, i, s.charAt(i));
        }
        return x;
    }

    static OwnLight town(String s) {
        OwnLight x = withText(new OwnLight(), 0, s);
        if (x.town(0) < 0) {
            throw new IllegalArgumentException("no town: " + s);
        }
        return x;
    }

    static void row(OwnLight x, int r, int... items) {
        x.row(r, items.length);
        for (int i = 0; i < items.length; i++) {
            x.lay(r, i, items[i]);
        }
    }

    static void dueRow(OwnLight x, int r, int... items) {
        for (int i = 0; i < items.length; i++) {
            due(x, x.at(r, i), 1, items[i]);
        }
        due(x.at(r, items.length), FINDING);
        due(x.finding(), BEYOND);
    }

    static int acts(OwnLight x, int... whats) {
        int last = 0;
        for (int what : whats) {
            last = x.act(what);
            if (last < 0) {
                throw new IllegalStateException("may not: " + what);
            }
        }
        return last;
    }

    /** The set, by bits, of these numbers. */
    static int bits(int... numbers) {
        int set = 0;
        for (int n : numbers) {
            set |= 1 << n;
        }
        return set;
    }

    static long fold(long... values) {
        long h = 17;
        for (long v : values) {
            h = 31 * h + v;
        }
        return h;
    }

    static void end() {
        System.out.println(wrong == 0 ? sentences + " hold" : wrong + " answers are not as due");
        if (wrong != 0) {
            System.exit(1);
        }
    }
}
