import java.util.Arrays;
import java.util.NoSuchElementException;

/** What the tests by hand have in common: due answers, sentences of the document, and chains. */
abstract class Checks {
    static final int NONE = BlendBench.NONE;
    static final int MIN = Integer.MIN_VALUE;
    static final int MAX = Integer.MAX_VALUE;
    private static String sentence = "";
    private static int sentences = 0;
    private static int wrong = 0;

    interface Call {
        long answer();
    }

    /** A call on an object that is made for it. */
    interface Use {
        long answer(BlendBench x);
    }

    /** A call that tells a fraction. */
    interface Telling {
        long answer(int what);
    }

    /** One sentence of the document has one test; what goes wrong in it is told under its words. */
    static void holds(String words, Runnable test) {
        sentence = words;
        sentences++;
        try {
            test.run();
        } catch (RuntimeException e) {
            wrong++;
            System.out.println("'" + sentence + "': the test ended with " + e + " at "
                    + Arrays.stream(e.getStackTrace()).limit(4).toList());
        }
    }

    static void finish() {
        System.out.println(wrong == 0 ? "all of " + sentences + " hold"
                : wrong + " answers are not as due");
        if (wrong != 0) {
            System.exit(1);
        }
    }

    static void due(String call, Object got, Object want) {
        if (!want.equals(got)) {
            wrong++;
            System.out.println("'" + sentence + "': " + call + " answered " + got + ", due is "
                    + want);
        }
    }

    static void due(String call, long got, long want) {
        due(call, (Object) got, (Object) want);
    }

    static void throwsNone(String call, Call c) {
        String got;
        try {
            got = String.valueOf(c.answer());
        } catch (NoSuchElementException e) {
            got = "NoSuchElementException";
        }
        due(call, got, "NoSuchElementException");
    }

    static void dueFraction(String call, Telling f, long up, long low) {
        due(call, f.answer(0) + " by " + f.answer(1), up + " by " + low);
    }

    /** The tape then holds these bytes alone. */
    static void tape(BlendBench x, int... bytes) {
        x.end(0);
        for (int from = 0; from < bytes.length; from += 20) {
            int[] five = new int[5];
            for (int k = 0; k < 20 && from + k < bytes.length; k++) {
                five[k / 4] |= bytes[from + k] << 24 - 8 * (k % 4);
            }
            x.feed(five[0], five[1], five[2], five[3], five[4]);
        }
        x.end(bytes.length);
    }

    static int sheet(BlendBench x, int s, int n, int q, int... bytes) {
        tape(x, bytes);
        return x.sheet(s, n, q);
    }

    static int melt(BlendBench x, int s, int t, int... colours) {
        tape(x, colours);
        return x.melt(s, t);
    }

    /** A new object with one chain in slot 0. */
    static BlendBench with(int n, int q, int... bytes) {
        BlendBench x = new BlendBench();
        due("sheet of " + n + " over " + q, sheet(x, 0, n, q, bytes) > 0, true);
        return x;
    }

    /** The bytes of n states: in threes a state, where it leads, and the chance; all else 0. */
    static int[] cells(int n, int... threes) {
        int[] bytes = new int[n * n];
        for (int k = 0; k < threes.length; k += 3) {
            bytes[threes[k] * n + threes[k + 1]] = threes[k + 2];
        }
        return bytes;
    }

    /** Each state leads to the next one alone, the last one to the first. */
    static int[] ring(int n) {
        int[] bytes = new int[n * n];
        for (int i = 0; i < n; i++) {
            bytes[i * n + (i + 1) % n] = 1;
        }
        return bytes;
    }

    /** Each state leads to itself alone. */
    static int[] apartForEver(int n) {
        int[] bytes = new int[n * n];
        for (int i = 0; i < n; i++) {
            bytes[i * n + i] = 1;
        }
        return bytes;
    }

    static void dueChances(BlendBench x, int s, int n, int q, int... bytes) {
        due("n in SLOT " + s, x.about(s, 0), n);
        due("Q in SLOT " + s, x.about(s, 1), q);
        int[] got = new int[n * n];
        for (int k = 0; k < n * n; k++) {
            long over = x.chance(s, k / n, k % n, 1, 1);
            got[k] = (int) (x.chance(s, k / n, k % n, 1, 0) * q / over);
            due("the lower one divides Q", q % over, 0);
        }
        due("chances in SLOT " + s, Arrays.toString(got), Arrays.toString(bytes));
    }

    static void dueOut(BlendBench x, int... bytes) {
        int[] got = new int[x.count(2)];
        for (int k = 0; k < got.length; k++) {
            got[k] = x.octet(k);
        }
        due("OUT", Arrays.toString(got), Arrays.toString(bytes));
    }

    /**
     * Slot 0: a WHOLE chain of three states; 1: one closed heap of two; 2: two closed ones;
     * 3: one state; 4: Q of 60; 5: none. OUT: 0 0 0. The tape: 3 1 2 2.
     */
    static BlendBench bench() {
        BlendBench x = new BlendBench();
        sheet(x, 0, 3, 4, 0, 3, 1, 1, 2, 1, 1, 0, 3);
        sheet(x, 1, 2, 2, 2, 0, 1, 1);
        sheet(x, 2, 2, 1, 1, 0, 0, 1);
        melt(x, 0, 3, 7, 7, 7);
        sheet(x, 4, 2, 60, 59, 1, 1, 59);
        tape(x, 3, 1, 2, 2);
        return x;
    }

    /** All that can be seen of an object without a change to it; of the tape that is its length. */
    static String seen(BlendBench x) {
        StringBuilder text = new StringBuilder();
        text.append(x.count(0)).append(" chains, ").append(x.count(1)).append(" bytes, OUT");
        int bytes = x.count(2);
        for (int k = 0; k < bytes; k++) {
            text.append(' ').append(x.octet(k));
        }
        for (int s = 0; s < 6; s++) {
            int n = x.about(s, 0);
            text.append("; ").append(n).append(" states over ").append(x.about(s, 1));
            for (int k = 0; k < n * n && n > 0; k++) {
                text.append(' ').append(x.chance(s, k / n, k % n, 1, 0));
                text.append('/').append(x.chance(s, k / n, k % n, 1, 1));
            }
        }
        return text.toString();
    }

    /** On a bench the call answers NONE and changes nothing. */
    static void refused(String call, Use c) {
        BlendBench x = bench();
        String before = seen(x);
        due(call, c.answer(x), NONE);
        due("after " + call, seen(x), before);
        dueBytesOfBench(call, x);
    }

    /** On a bench with these bytes the call answers NONE; the tape is empty, all else as before. */
    static void refusedTaking(String call, Use c, int... bytes) {
        BlendBench x = bench();
        x.end(0);
        String before = seen(x);
        tape(x, bytes);
        due("bytes before " + call, x.count(1), bytes.length);
        due(call, c.answer(x), NONE);
        due("after " + call, seen(x), before);
    }

    /** On a bench the call throws and changes nothing. */
    static void thrown(String call, Use c) {
        BlendBench x = bench();
        String before = seen(x);
        throwsNone(call, () -> c.answer(x));
        due("after " + call, seen(x), before);
        dueBytesOfBench(call, x);
    }

    private static void dueBytesOfBench(String call, BlendBench x) {
        due("the tape after " + call, x.sheet(5, 2, 4), 4);
        dueChances(x, 5, 2, 4, 3, 1, 2, 2);
    }
}
