import java.util.NoSuchElementException;

/** Any arguments in any state: a call answers, or throws NoSuchElementException where it may. */
public final class AnyArgumentsTest extends Checks {
    private static final int RUNS = 3000;
    private static final int CALLS = 512;
    private static final int[] ODD = {MIN, MIN + 1, -65536, -1001, -256, -61, -33, -32, -31, -9,
        -8, -3, -2, -1, 0, 1, 2, 3, 4, 5, 6, 7, 8, 9, 15, 16, 20, 21, 30, 31, 32, 33, 59, 60, 61,
        63, 64, 79, 80, 81, 127, 128, 255, 256, 257, 999, 1000, 1001, 32768, 46341, 65535, 65536,
        0x01000000, 0x01010101, 0x02000200, MAX - 1, MAX};
    private static final String MAY_THROW = " octet chance apart stay steps ahead narrow ";
    private static final String[] NAMES = {"feed", "end", "sheet", "lazy", "back", "melt", "octet",
        "about", "state", "chance", "apart", "when", "stay", "steps", "ahead", "narrow", "cut",
        "count"};
    private static long seed = 7L;

    private static int pick(int below) {
        seed = seed * 6364136223846793005L + 1442695040888963407L;
        return (int) ((seed >>> 33) % below);
    }

    /** A number that fits most times, else any. */
    private static int some(int below) {
        return pick(4) != 0 ? pick(below) : ODD[pick(ODD.length)];
    }

    private static void chain(BlendBench x) {
        int n = 1 + pick(8);
        int q = 1 + pick(60);
        int[] bytes = new int[n * n];
        for (int i = 0; i < n; i++) {
            int first = pick(q + 1);
            bytes[i * n + pick(n)] += first;
            bytes[i * n + pick(n)] += q - first;
        }
        sheet(x, pick(6), n, q, bytes);
    }

    private static long call(BlendBench x, int kind) {
        int s = some(6);
        int i = some(8);
        int j = some(8);
        int what = some(2);
        return switch (kind) {
            case 0 -> x.feed(some(9), some(9), some(9), some(9), some(9));
            case 1 -> x.end(some(80)) ? 1 : 0;
            case 2 -> x.sheet(s, some(9), some(61));
            case 3 -> x.lazy(s, some(6));
            case 4 -> x.back(s, some(6));
            case 5 -> x.melt(s, some(6));
            case 6 -> x.octet(i);
            case 7 -> x.about(s, some(7));
            case 8 -> x.state(s, i, some(3));
            case 9 -> x.chance(s, i, j, some(21), what);
            case 10 -> x.apart(s, pick(3) == 0 ? NONE : i, pick(3) == 0 ? NONE : j, some(21), what);
            case 11 -> x.when(s, some(1000), some(1001));
            case 12 -> x.stay(s, i, what);
            case 13 -> x.steps(s, i, some(256), what);
            case 14 -> x.ahead(s, i, some(256), some(256), what);
            case 15 -> x.narrow(s, what);
            case 16 -> x.cut(s);
            default -> x.count(some(3));
        };
    }

    private static void anyCalls() {
        for (int run = 0; run < RUNS; run++) {
            BlendBench x = new BlendBench();
            // A chain and the bytes of another call come by up to eight calls.
            for (int made = 0; made + 9 <= CALLS; made++) {
                if (pick(16) == 0) {
                    chain(x);
                    made += 7;
                }
                int kind = pick(NAMES.length);
                try {
                    call(x, kind);
                } catch (NoSuchElementException e) {
                    String name = NAMES[kind];
                    due(name + " may throw", MAY_THROW.contains(" " + name + " "), true);
                    String by = e.getStackTrace()[0].getClassName();
                    due("what " + name + " throws is thrown in", by, "BlendBench");
                }
            }
        }
    }

    public static void main(String[] args) {
        holds("No call may ever throw by itself", AnyArgumentsTest::anyCalls);
        finish();
    }
}
