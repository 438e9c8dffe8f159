import java.math.BigInteger;
import java.util.Arrays;

/** 'What it is' and 'Terms', a test for each sentence: the boundary, and either side of it. */
public final class TermsEdgeTest extends Checks {
    private static final int CALLS = 512;

    // What it is

    /** A call that comes last, behind these bytes on the tape. */
    private record Last(String call, Use use, long want, int... bytes) {
    }

    private static final Last[] LASTS = {
        new Last("feed", x -> x.feed(1, 2, 3, 4, 5), 23, 7, 7, 7),
        new Last("end", x -> x.end(2) ? 1 : 0, 1, 7, 7, 7),
        new Last("sheet", x -> x.sheet(5, 1, 60), 1, 60),
        new Last("lazy", x -> x.lazy(0, 5), 8),
        new Last("back", x -> x.back(0, 5), 40),
        new Last("melt", x -> x.melt(0, 5), 2, 7, 7, 9),
        new Last("octet", x -> x.octet(2), 0),
        new Last("about", x -> x.about(0, 5), 2),
        new Last("state", x -> x.state(1, 1, 0), 1),
        new Last("chance", x -> x.chance(0, 0, 1, 1, 1), 4),
        new Last("apart", x -> x.apart(0, NONE, NONE, 1, 0), 3),
        new Last("when", x -> x.when(4, 763, 1000), 8),
        new Last("stay", x -> x.stay(0, 1, 1), 10),
        new Last("steps", x -> x.steps(0, 0, 4, 0), 4),
        new Last("ahead", x -> x.ahead(0, 0, 2, 4, 1), 4),
        new Last("narrow", x -> x.narrow(0, 1), 4),
        new Last("cut", x -> x.cut(0), 3),
        new Last("count", x -> x.count(0), 6)};

    private static void fiveHundredAndTwelveCalls() {
        for (Last last : LASTS) {
            BlendBench x = bench();
            // bench() itself takes 23 calls, tape() three (two without bytes).
            int made = 23 + (last.bytes.length == 0 ? 2 : 3);
            for (int k = made; k < CALLS - 1; k++) {
                filling(x, k);
            }
            tape(x, last.bytes);
            due("call 512, " + last.call, last.use.answer(x), last.want);
        }
    }

    private static void filling(BlendBench x, int k) {
        switch (k % 8) {
            case 0 -> due("feed", x.feed(k, k, k, k, k) >= 20, true);
            case 1 -> due("melt", x.melt(0, 5), NONE);
            case 2 -> due("back", x.back(0, 5), 40);
            case 3 -> throwsNone("stay", () -> x.stay(2, 0, 0));
            case 4 -> due("steps", x.steps(0, 0, 4, 0), 4);
            case 5 -> due("lazy", x.lazy(1, 5), 4);
            case 6 -> due("sheet", x.sheet(5, 1, 1), NONE);
            default -> throwsNone("octet", () -> x.octet(3));
        }
    }

    // Terms: chains

    private static void slots() {
        for (int s = 0; s < 6; s++) {
            BlendBench x = new BlendBench();
            sheet(x, s, 2, 4, 3, 1, 2, 2);
            for (int other = 0; other < 6; other++) {
                due("SLOT " + other + " with one in " + s, x.about(other, 0),
                        other == s ? 2 : NONE);
            }
            due("not in 6", sheet(x, 6, 1, 1, 1), NONE);
            due("not in -1", sheet(x, -1, 1, 1, 1), NONE);
            due("CHAINS", x.count(0), 1);
        }
    }

    private static void states() {
        for (int n = 1; n <= 8; n++) {
            BlendBench x = with(n, 1, ring(n));
            int all = (1 << n) - 1;
            int last = n - 1;
            int behind = n;
            due("state", x.state(0, last, 0), 0);
            due("chance", x.chance(0, last, 0, 1, 0), 1);
            due("chance", x.chance(0, 0, last, n - 1, 0), 1);
            due("apart", x.apart(0, last, last, 1, 0), 0);
            due("stay", x.stay(0, last, 1), n);
            due("steps", x.steps(0, last, 1, 0), n == 1 ? 0 : 1);
            due("steps to all", x.steps(0, last, all, 0), 0);
            due("state", x.state(0, behind, 0), NONE);
            throwsNone("chance", () -> x.chance(0, behind, 0, 1, 0));
            throwsNone("chance", () -> x.chance(0, 0, behind, 1, 0));
            throwsNone("apart", () -> x.apart(0, behind, last, 1, 0));
            throwsNone("stay", () -> x.stay(0, behind, 1));
            throwsNone("steps", () -> x.steps(0, behind, 1, 0));
        }
        BlendBench x = new BlendBench();
        due("n 0", sheet(x, 0, 0, 1), NONE);
        due("n 9", sheet(x, 0, 9, 1, Arrays.copyOf(ring(8), 80)), NONE);
    }

    private static void leastQ() {
        // Each row alone could do with less; one byte of all keeps the Q.
        int[][] rows = {{30, 30, 0, 20, 40, 0, 12, 0, 48}, {30, 30, 0, 30, 30, 0, 60, 0, 0},
            {30, 30, 0, 30, 30, 0, 59, 0, 1}, {58, 2, 0, 30, 30, 0, 60, 0, 0},
            {15, 45, 0, 10, 50, 0, 0, 0, 60}, {60, 0, 0, 60, 0, 0, 60, 0, 0}};
        int[] due = {30, 2, 60, 30, 12, 1};
        for (int k = 0; k < rows.length; k++) {
            BlendBench x = new BlendBench();
            due("Q of " + Arrays.toString(rows[k]), sheet(x, 0, 3, 60, rows[k]), due[k]);
            int[] over = rows[k].clone();
            for (int at = 0; at < over.length; at++) {
                over[at] /= 60 / due[k];
            }
            dueChances(x, 0, 3, due[k], over);
        }
        // Melted and back, too.
        BlendBench x = with(3, 6, 1, 2, 3, 2, 1, 3, 0, 6, 0);
        due("melt", melt(x, 0, 1, 0, 0, 1), 2);
        dueChances(x, 1, 2, 2, 1, 1, 2, 0);
        sheet(x, 2, 3, 4, 0, 3, 1, 1, 2, 1, 1, 0, 3);
        x.back(2, 2);
        due("back of 40", x.back(2, 2), 4);
    }

    private static void qBounds() {
        BlendBench x = with(2, 1, 0, 1, 1, 0);
        due("Q 1", x.about(0, 1), 1);
        due("Q 60", sheet(x, 1, 2, 60, 1, 59, 60, 0), 60);
        due("Q 61", sheet(x, 1, 2, 61, 1, 60, 61, 0), NONE);
        due("q 62, though 31 would do", sheet(x, 1, 2, 62, 2, 60, 62, 0), NONE);
        due("the one of 60 stays", x.about(1, 1), 60);
        due("LAZY of 60", x.lazy(1, 2), NONE);
        sheet(x, 1, 2, 30, 1, 29, 30, 0);
        due("LAZY of 30", x.lazy(1, 2), 60);
        sheet(x, 1, 2, 31, 2, 29, 31, 0);
        due("LAZY of 31", x.lazy(1, 3), NONE);
        due("CHAINS", x.count(0), 3);
    }

    private static void togetherQ() {
        BlendBench x = bench();
        x.lazy(0, 1);
        x.back(0, 2);
        melt(x, 0, 5, 1, 1, 2);
        for (int s = 0; s < 6; s++) {
            int n = x.about(s, 0);
            long q = x.about(s, 1);
            for (int i = 0; i < n; i++) {
                long sum = 0;
                for (int j = 0; j < n; j++) {
                    sum += x.chance(s, i, j, 1, 0) * q / x.chance(s, i, j, 1, 1);
                }
                due("from " + i + " in SLOT " + s, sum, q);
            }
        }
    }

    private static final int[][] ORDERS = {{0, 1, 2, 3, 4, 5, 6, 7}, {7, 6, 5, 4, 3, 2, 1, 0},
        {3, 0, 6, 1, 7, 4, 2, 5}, {5, 2, 7, 0, 4, 6, 1, 3}, {0, 7, 1, 6, 2, 5, 3, 4}};

    /** Each state leads to the next of the order by 1 by 60, else it stays; so does the last. */
    private static int[] line(int[] order) {
        int n = order.length;
        int[] bytes = new int[n * n];
        for (int k = 0; k < n; k++) {
            bytes[order[k] * n + order[k]] = k < n - 1 ? 59 : 60;
            if (k < n - 1) {
                bytes[order[k] * n + order[k + 1]] = 1;
            }
        }
        return bytes;
    }

    private static void leads() {
        for (int[] order : ORDERS) {
            int last = order[7];
            int[] bytes = line(order);
            BlendBench x = with(8, 60, bytes);
            due("HEAPS of a line", x.about(0, 2), 8);
            due("CLOSED ones of a line", x.about(0, 3), 1);
            for (int i = 0; i < 8; i++) {
                due("HEAP of " + i, x.state(0, i, 0), i);
                due("CLOSED " + i, x.state(0, i, 1), i == last ? 1 : 0);
            }
            due("far along the line", x.steps(0, order[0], 1 << last, 0), 420);
            bytes[last * 8 + last] = 59;
            bytes[last * 8 + order[0]] = 1;
            sheet(x, 0, 8, 60, bytes);
            due("HEAPS of a round", x.about(0, 2), 1);
            due("CLOSED ones of a round", x.about(0, 3), 1);
        }
    }

    private static void leadsToItself() {
        // 0 goes away for ever: it leads to itself by no step, and its heap is its own.
        BlendBench x = with(2, 1, 0, 1, 0, 1);
        due("HEAPS", x.about(0, 2), 2);
        due("HEAP", x.state(0, 0, 0), 0);
        due("CLOSED", x.state(0, 0, 1), 0);
        due("BEAT, by one step at least", x.state(0, 0, 2), 0);
        dueFraction("STEPS by none", what -> x.steps(0, 0, 1, what), 0, 1);
        dueFraction("AHEAD by none", what -> x.ahead(0, 0, 1, 2, what), 1, 1);
    }

    // Terms: fractions

    private static void fractionsInLeastNumbers() {
        BlendBench x = with(2, 60, 30, 30, 40, 20);
        dueFraction("CHANCE", what -> x.chance(0, 0, 0, 1, what), 1, 2);
        dueFraction("APART", what -> x.apart(0, 0, 1, 1, what), 1, 6);
        dueFraction("STAY", what -> x.stay(0, 0, what), 4, 7);
        dueFraction("STEPS", what -> x.steps(0, 0, 2, what), 2, 1);
        dueFraction("NARROW", what -> x.narrow(0, what), 2, 3);
        sheet(x, 1, 3, 60, 20, 30, 10, 0, 60, 0, 0, 0, 60);
        dueFraction("AHEAD", what -> x.ahead(1, 0, 2, 4, what), 3, 4);
        dueFraction("STEPS", what -> x.steps(1, 0, 6, what), 3, 2);
    }

    private static void fractionOfZero() {
        BlendBench x = with(3, 60, 20, 40, 0, 59, 1, 0, 1, 0, 59);
        dueFraction("CHANCE", what -> x.chance(0, 0, 2, 8, what), 0, 1);
        dueFraction("CHANCE in no step", what -> x.chance(0, 0, 2, 0, what), 0, 1);
        dueFraction("APART", what -> x.apart(0, 1, 1, 8, what), 0, 1);
        dueFraction("STAY", what -> x.stay(0, 2, what), 0, 1);
        dueFraction("STEPS", what -> x.steps(0, 1, 2, what), 0, 1);
        dueFraction("AHEAD from the other", what -> x.ahead(0, 1, 4, 2, what), 0, 1);
        dueFraction("AHEAD of what is never", what -> x.ahead(0, 0, 4, 2, what), 0, 1);
        sheet(x, 1, 2, 2, 1, 1, 1, 1);
        dueFraction("APART of the CHAIN", what -> x.apart(1, NONE, NONE, 1, what), 0, 1);
    }

    private static void fractionOfOne() {
        BlendBench x = with(2, 60, 60, 0, 1, 59);
        dueFraction("CHANCE", what -> x.chance(0, 0, 0, 8, what), 1, 1);
        dueFraction("APART", what -> x.apart(0, 0, 1, 0, what), 1, 1);
        dueFraction("STAY", what -> x.stay(0, 0, what), 1, 1);
        dueFraction("STEPS", what -> x.steps(0, 1, 1, what), 60, 1);
        dueFraction("AHEAD", what -> x.ahead(0, 1, 2, 1, what), 1, 1);
        sheet(x, 1, 2, 1, 0, 1, 1, 0);
        dueFraction("NARROW", what -> x.narrow(1, what), 1, 1);
    }

    private static void fractionsOfGreatNumbers() {
        // A step on by 1 by 60, else back to 0: 60 + 60^2 + .. + 60^7 steps.
        int[] bytes = new int[64];
        for (int i = 0; i < 8; i++) {
            bytes[i * 8] += i < 7 ? 59 : 60;
            bytes[i * 8 + Math.min(i + 1, 7)] += i < 7 ? 1 : 0;
        }
        BlendBench x = with(8, 60, bytes);
        dueFraction("STEPS", what -> x.steps(0, 0, 128, what), 2846806779660L, 1);
        // 7 has 1 share, 6 has 60, 5 has 3600 ..
        dueFraction("STAY of 7", what -> x.stay(0, 7, what), 1, 2846806779661L);
        dueFraction("STAY of 0", what -> x.stay(0, 0, what), 2799360000000L, 2846806779661L);
        // Always to 0: of the minors the greatest.
        sheet(x, 1, 8, 60, cells(8, 0, 0, 59, 0, 7, 1, 1, 0, 60, 2, 0, 60, 3, 0, 60, 4, 0, 60,
                5, 0, 60, 6, 0, 60, 7, 0, 60));
        dueFraction("STAY of 0", what -> x.stay(1, 0, what), 60, 61);
        dueFraction("STAY of 7", what -> x.stay(1, 7, what), 1, 61);
        dueFraction("STEPS of 6", what -> x.steps(1, 6, 128, what), 61, 1);
    }

    // Terms: heaps and beats

    private static void heaps() {
        BlendBench x = with(8, 1, cells(8, 0, 7, 1, 7, 0, 1, 1, 6, 1, 6, 1, 1, 2, 5, 1, 5, 2, 1,
                3, 4, 1, 4, 3, 1));
        int[] want = {0, 1, 2, 3, 3, 2, 1, 0};
        for (int i = 0; i < 8; i++) {
            due("HEAP of " + i, x.state(0, i, 0), want[i]);
        }
        due("HEAPS", x.about(0, 2), 4);
        due("CLOSED ones", x.about(0, 3), 4);
        // {0, 3} is led to, {1} leads to both, {2, 4} is led to: numbers go by states alone.
        sheet(x, 1, 5, 2, cells(5, 0, 3, 2, 3, 0, 2, 1, 2, 1, 1, 3, 1, 2, 4, 2, 4, 2, 2));
        int[] next = {0, 1, 2, 0, 2};
        for (int i = 0; i < 5; i++) {
            due("HEAP of " + i, x.state(1, i, 0), next[i]);
            due("CLOSED " + i, x.state(1, i, 1), i == 1 ? 0 : 1);
        }
        // {0, 1, 2}, {3, 6}, {4, 5}: states between their least ones bring no number.
        sheet(x, 2, 7, 1, cells(7, 0, 1, 1, 1, 2, 1, 2, 0, 1, 3, 6, 1, 6, 3, 1, 4, 5, 1, 5, 4, 1));
        int[] behind = {0, 0, 0, 1, 2, 2, 1};
        for (int i = 0; i < 7; i++) {
            due("HEAP of " + i, x.state(2, i, 0), behind[i]);
        }
    }

    private static void closed() {
        // 0 and 1 in turn; from 1 at times to 2, which stays.
        BlendBench x = with(3, 60, 0, 60, 0, 59, 0, 1, 0, 0, 60);
        due("leads to one other by 1 by 60", x.state(0, 0, 1), 0);
        due("leads to one other by 1 by 60", x.state(0, 1, 1), 0);
        due("leads to none", x.state(0, 2, 1), 1);
        due("CLOSED ones", x.about(0, 3), 1);
        sheet(x, 0, 3, 60, 0, 60, 0, 60, 0, 0, 1, 0, 59);
        due("leads to none", x.state(0, 0, 1), 1);
        due("leads to none", x.state(0, 1, 1), 1);
        due("leads to one other by 1 by 60", x.state(0, 2, 1), 0);
        due("CLOSED ones", x.about(0, 3), 1);
        sheet(x, 0, 3, 60, 0, 60, 0, 60, 0, 0, 0, 0, 60);
        due("both", x.about(0, 3), 2);
    }

    private static void beats() {
        // A round of eight and a way from 7 to k: rounds of 8 and of 8 - k.
        int[] want = {8, 1, 2, 1, 4, 1, 2, 1};
        for (int k = 0; k < 8; k++) {
            int[] bytes = ring(8);
            for (int at = 0; at < 64; at++) {
                bytes[at] *= 2;
            }
            bytes[56]--;
            bytes[56 + k]++;
            BlendBench x = with(8, 2, bytes);
            for (int i = 0; i < 8; i++) {
                due("BEAT of " + i + " with rounds of 8 and " + (8 - k), x.state(0, i, 2), want[k]);
            }
            due("EVEN", x.about(0, 5), want[k] == 1 ? 2 : 1);
        }
        // Rounds of 3 and 5, and of 4 and 6, through 0.
        BlendBench x = with(7, 2, cells(7, 0, 1, 1, 1, 2, 2, 2, 0, 2, 0, 3, 1, 3, 4, 2, 4, 5, 2,
                5, 6, 2, 6, 0, 2));
        due("3 and 5", x.state(0, 4, 2), 1);
        sheet(x, 1, 8, 2, cells(8, 0, 1, 1, 1, 2, 2, 2, 3, 2, 3, 0, 2, 0, 4, 1, 4, 5, 2, 5, 6, 2,
                6, 7, 2, 7, 3, 2));
        due("4 and 6", x.state(1, 5, 2), 2);
    }

    private static void beatFarAway() {
        // There and back along eight states, and at 7 a step in place: 7, 1 and 7 steps from 0.
        int[] bytes = new int[64];
        for (int i = 0; i < 8; i++) {
            bytes[i * 8 + Math.max(i - 1, 0)] += 1;
            bytes[i * 8 + Math.min(i + 1, 7)] += 1;
        }
        bytes[0] = 0;
        bytes[1] = 2;
        BlendBench x = with(8, 2, bytes);
        for (int i = 0; i < 8; i++) {
            due("BEAT of " + i, x.state(0, i, 2), 1);
        }
        due("EVEN", x.about(0, 5), 2);
        bytes[63] = 0;
        bytes[62] = 2;
        sheet(x, 0, 8, 2, bytes);
        for (int i = 0; i < 8; i++) {
            due("BEAT of " + i, x.state(0, i, 2), 2);
        }
        due("WHOLE, not EVEN", x.about(0, 5), 1);
    }

    private static void beatOfNone() {
        // 0 and 1 go on for ever, 2 stays at times, 3 and 4 go in turn.
        BlendBench x = with(5, 2, cells(5, 0, 1, 2, 1, 2, 2, 2, 2, 1, 2, 3, 1, 3, 4, 2, 4, 3, 2));
        int[] want = {0, 0, 1, 2, 2};
        for (int i = 0; i < 5; i++) {
            due("BEAT of " + i, x.state(0, i, 2), want[i]);
        }
    }

    private static void wholeAndEven() {
        BlendBench x = with(3, 60, 0, 60, 0, 60, 0, 0, 0, 1, 59);
        due("two HEAPS, one CLOSED", x.about(0, 5), 0);
        sheet(x, 0, 3, 60, 0, 60, 0, 59, 0, 1, 0, 60, 0);
        due("one HEAP, BEAT 2", x.about(0, 5), 1);
        sheet(x, 0, 3, 60, 1, 59, 0, 59, 0, 1, 0, 60, 0);
        due("one HEAP, BEAT 1", x.about(0, 5), 2);
        sheet(x, 0, 3, 60, 60, 0, 0, 0, 60, 0, 0, 0, 60);
        due("three HEAPS, each with BEAT 1", x.about(0, 5), 0);
    }

    // Terms: times and apart

    private static void times() {
        BigInteger most = BigInteger.TEN.pow(15);
        for (int q = 1; q <= 60; q++) {
            BlendBench x = with(2, q, 1, q - 1, 0, q);
            int last = 0;
            while (last < 20 && BigInteger.valueOf(q).pow(last + 1).compareTo(most) <= 0) {
                last++;
            }
            int t = last;
            due("greatest TIME of " + q, x.about(0, 4), t);
            due("chance at the last", x.chance(0, 0, 0, t, 0), 1);
            due("apart at the last", x.apart(0, 0, 1, t, 1),
                    BigInteger.valueOf(q).pow(t).longValueExact());
            due("apart of the CHAIN at the last", x.apart(0, NONE, NONE, t, 0), 1);
            due("chance at the first", x.chance(0, 0, 0, 0, 0), 1);
            throwsNone("chance behind the last", () -> x.chance(0, 0, 0, t + 1, 0));
            throwsNone("apart behind the last", () -> x.apart(0, 0, 1, t + 1, 0));
            throwsNone("apart of the CHAIN behind it", () -> x.apart(0, NONE, NONE, t + 1, 0));
            throwsNone("chance ahead of the first", () -> x.chance(0, 0, 0, -1, 0));
        }
    }

    private static void timesAtTheirBounds() {
        // 10^15 itself; 5^21 is below it, but 21 is above 20; 6^20 and 32^10 are above it.
        int[][] want = {{10, 15}, {11, 14}, {9, 15}, {5, 20}, {6, 19}, {31, 10}, {32, 9}, {1, 20},
            {2, 20}, {59, 8}, {60, 8}};
        for (int[] pair : want) {
            BlendBench x = with(2, pair[0], 1, pair[0] - 1, 0, pair[0]);
            due("TIMES of " + pair[0], x.about(0, 4), pair[1]);
        }
        BlendBench x = with(2, 10, 9, 1, 0, 10);
        dueFraction("15 steps over 10", what -> x.chance(0, 0, 0, 15, what), 205891132094649L,
                1000000000000000L);
        dueFraction("the rest", what -> x.chance(0, 0, 1, 15, what), 794108867905351L,
                1000000000000000L);
    }

    private static void chanceInNoStep() {
        BlendBench x = with(4, 60, cells(4, 0, 1, 60, 1, 0, 60, 2, 3, 60, 3, 0, 1, 3, 3, 59));
        for (int i = 0; i < 4; i++) {
            for (int j = 0; j < 4; j++) {
                int from = i;
                int to = j;
                dueFraction("from " + i + " to " + j, what -> x.chance(0, from, to, 0, what),
                        i == j ? 1 : 0, 1);
            }
        }
        dueFraction("1 step", what -> x.chance(0, 3, 0, 1, what), 1, 60);
        dueFraction("2 steps", what -> x.chance(0, 3, 0, 2, what), 59, 3600);
        dueFraction("2 steps", what -> x.chance(0, 3, 1, 2, what), 1, 60);
    }

    private static void apartHalfOfSum() {
        BlendBench x = with(4, 10, 1, 2, 3, 4, 4, 3, 2, 1, 10, 0, 0, 0, 0, 0, 0, 10);
        dueFraction("below and above", what -> x.apart(0, 0, 1, 1, what), 2, 5);
        dueFraction("the other way", what -> x.apart(0, 1, 0, 1, what), 2, 5);
        dueFraction("nothing alike", what -> x.apart(0, 2, 3, 1, what), 1, 1);
        dueFraction("with itself", what -> x.apart(0, 3, 3, 1, what), 0, 1);
        dueFraction("at first", what -> x.apart(0, 0, 1, 0, what), 1, 1);
    }

    private static void apartGreatest() {
        // All go alike, but a a little to one side and b to the other.
        for (int a = 0; a < 8; a++) {
            for (int b = 0; b < a; b++) {
                int[] bytes = new int[64];
                for (int i = 0; i < 8; i++) {
                    bytes[i * 8] = i == a ? 31 : i == b ? 29 : 30;
                    bytes[i * 8 + 7] = 60 - bytes[i * 8];
                }
                BlendBench x = with(8, 60, bytes);
                int one = a;
                int two = b;
                dueFraction("of " + a + " and " + b, what -> x.apart(0, one, two, 1, what), 1, 30);
                dueFraction("of the CHAIN", what -> x.apart(0, NONE, NONE, 1, what), 1, 30);
                due("when", x.when(0, 33, 1000), 2);
            }
        }
    }

    // Terms: shares

    private static void stay() {
        // Round, but i waits c times as long as the shortest.
        int[] leaving = {1, 2, 3, 4, 5, 6, 10, 60};
        int[] bytes = new int[64];
        for (int i = 0; i < 8; i++) {
            bytes[i * 8 + i] = 60 - leaving[i];
            bytes[i * 8 + (i + 1) % 8] += leaving[i];
        }
        BlendBench x = with(8, 60, bytes);
        long[][] want = {{30, 77}, {15, 77}, {10, 77}, {15, 154}, {6, 77}, {5, 77}, {3, 77},
            {1, 154}};
        for (int i = 0; i < 8; i++) {
            int state = i;
            dueFraction("of " + i, what -> x.stay(0, state, what), want[i][0], want[i][1]);
        }
    }

    private static void stayOfOneClosedHeap() {
        // 0 and 1 lead to 2 and 3, which go in turn, 3 for twice as long.
        BlendBench x = with(4, 2, cells(4, 0, 0, 1, 0, 1, 1, 1, 0, 1, 1, 2, 1, 2, 3, 2, 3, 2, 1,
                3, 3, 1));
        due("CLOSED ones", x.about(0, 3), 1);
        long[][] want = {{0, 1}, {0, 1}, {1, 3}, {2, 3}};
        for (int i = 0; i < 4; i++) {
            int state = i;
            dueFraction("of " + i, what -> x.stay(0, state, what), want[i][0], want[i][1]);
        }
        sheet(x, 0, 4, 2, cells(4, 0, 0, 1, 0, 1, 1, 1, 0, 1, 1, 1, 1, 2, 3, 2, 3, 2, 1, 3, 3, 1));
        due("CLOSED ones", x.about(0, 3), 2);
        for (int i = 0; i < 4; i++) {
            int state = i;
            throwsNone("of " + i, () -> x.stay(0, state, 0));
        }
    }

    private static void bothWays() {
        BlendBench x = with(3, 4, 2, 2, 0, 1, 2, 1, 0, 2, 2);
        due("along a line", x.about(0, 6), 1);
        sheet(x, 0, 3, 3, 1, 1, 1, 1, 1, 1, 1, 1, 1);
        due("round, alike either way", x.about(0, 6), 1);
        sheet(x, 0, 3, 60, 20, 21, 19, 19, 20, 21, 21, 19, 20);
        due("round, a little more one way", x.about(0, 6), 0);
        // 0 to 1 is alike either way, 1, 2 and 3 go round.
        sheet(x, 0, 4, 6, cells(4, 0, 1, 6, 1, 0, 3, 1, 2, 2, 1, 3, 1, 2, 3, 4, 2, 1, 2, 3, 1, 4,
                3, 2, 2));
        due("only the last three do not", x.about(0, 6), 0);
        sheet(x, 0, 2, 60, 59, 1, 60, 0);
        due("two STATES", x.about(0, 6), 1);
        sheet(x, 0, 2, 60, 59, 1, 0, 60);
        due("not WHOLE", x.about(0, 6), 0);
        sheet(x, 0, 2, 1, 1, 0, 0, 1);
        due("not WHOLE, 0 either way", x.about(0, 6), 0);
        sheet(x, 0, 1, 1, 1);
        due("one STATE", x.about(0, 6), 1);
    }

    private static void back() {
        BlendBench x = with(8, 1, ring(8));
        due("of a round", x.back(0, 1), 1);
        for (int i = 0; i < 8; i++) {
            due("from " + i, x.chance(1, i, (i + 7) % 8, 1, 0), 1);
        }
        // BOTH WAYS: back is as it was.
        sheet(x, 2, 3, 4, 2, 2, 0, 1, 2, 1, 0, 2, 2);
        due("of BOTH WAYS", x.back(2, 3), 4);
        dueChances(x, 3, 3, 4, 2, 2, 0, 1, 2, 1, 0, 2, 2);
        // Shares of 3, 4 and 2.
        sheet(x, 4, 3, 6, 2, 4, 0, 0, 3, 3, 6, 0, 0);
        dueFraction("share of 0", what -> x.stay(4, 0, what), 1, 3);
        due("of shares that differ", x.back(4, 5), 6);
        dueChances(x, 5, 3, 6, 2, 0, 4, 3, 3, 0, 0, 6, 0);
    }

    private static void lazy() {
        BlendBench x = with(3, 5, 0, 5, 0, 1, 1, 3, 0, 0, 5);
        due("of 5", x.lazy(0, 1), 10);
        dueChances(x, 1, 3, 10, 5, 5, 0, 1, 6, 3, 0, 0, 10);
        sheet(x, 0, 2, 1, 0, 1, 1, 0);
        due("of a round", x.lazy(0, 1), 2);
        dueChances(x, 1, 2, 2, 1, 1, 1, 1);
    }

    // Terms: parts

    private static void partsOfOneColour() {
        int[] alike = new int[64];
        Arrays.fill(alike, 1);
        BlendBench x = with(8, 8, alike);
        due("one colour", melt(x, 0, 1, 255, 255, 255, 255, 255, 255, 255, 255), 1);
        due("two colours", melt(x, 0, 1, 0, 255, 255, 0, 255, 0, 0, 255), 2);
        dueOut(x, 0, 1, 1, 0, 1, 0, 0, 1);
        due("one of another colour", melt(x, 0, 1, 7, 7, 7, 7, 7, 7, 7, 8), 2);
        dueOut(x, 0, 0, 0, 0, 0, 0, 0, 1);
        dueChances(x, 1, 2, 8, 7, 1, 7, 1);
        due("eight colours", melt(x, 0, 1, 255, 128, 127, 64, 3, 2, 1, 0), 8);
        dueOut(x, 0, 1, 2, 3, 4, 5, 6, 7);
    }

    private static void partsAlike() {
        // 0 and 1 go to 2 and 3 together alike, to each of them not.
        BlendBench x = with(4, 60, cells(4, 0, 2, 60, 1, 2, 1, 1, 3, 59, 2, 2, 30, 2, 0, 30,
                3, 3, 30, 3, 1, 30));
        due("alike together", melt(x, 0, 1, 5, 5, 6, 6), 2);
        dueOut(x, 0, 0, 1, 1);
        dueChances(x, 1, 2, 2, 0, 2, 1, 1);
        // By 1 by 60 not alike.
        sheet(x, 0, 4, 60, cells(4, 0, 2, 60, 1, 2, 1, 1, 3, 58, 1, 0, 1, 2, 2, 30, 2, 0, 30,
                3, 3, 30, 3, 1, 30));
        due("0 and 1 are not alike", melt(x, 0, 1, 5, 5, 6, 6), 4);
        dueOut(x, 0, 1, 2, 3);
        due("one colour is alike at any rate", melt(x, 0, 1, 6, 6, 6, 6), 1);
    }

    private static void partsThatSplit() {
        // Each split brings the next one; the colour is of the line's last state.
        for (int[] order : ORDERS) {
            int[] colours = new int[8];
            colours[order[7]] = 1;
            BlendBench x = with(8, 60, line(order));
            due("a line", melt(x, 0, 1, colours), 8);
            dueOut(x, 0, 1, 2, 3, 4, 5, 6, 7);
            due("n", x.about(1, 0), 8);
            due("a line of one colour", melt(x, 0, 1, new int[8]), 1);
        }
    }

    private static void partsFewest() {
        // Four colours in a row round, twice: i and i + 4 stay together.
        BlendBench x = with(8, 1, ring(8));
        due("round of four", melt(x, 0, 1, 1, 2, 3, 4, 1, 2, 3, 4), 4);
        dueOut(x, 0, 1, 2, 3, 0, 1, 2, 3);
        dueChances(x, 1, 4, 1, ring(4));
        due("one of four", melt(x, 0, 1, 1, 0, 0, 0, 1, 0, 0, 0), 4);
        dueOut(x, 0, 1, 2, 3, 0, 1, 2, 3);
        due("two of four", melt(x, 0, 1, 1, 1, 0, 0, 1, 1, 0, 0), 4);
        due("one of two", melt(x, 0, 1, 9, 0, 9, 0, 9, 0, 9, 0), 2);
        due("one alone", melt(x, 0, 1, 0, 0, 0, 0, 0, 0, 0, 1), 8);
    }

    private static void partsNumbered() {
        BlendBench x = with(4, 2, cells(4, 0, 3, 2, 1, 0, 2, 2, 0, 2, 3, 3, 2));
        due("by least STATES, not by colours", melt(x, 0, 1, 9, 4, 4, 200), 3);
        dueOut(x, 0, 1, 1, 2);
        dueChances(x, 1, 3, 1, 0, 0, 1, 1, 0, 0, 0, 0, 1);
    }

    // Terms: steps and ahead

    private static void stepsInIt() {
        BlendBench x = with(3, 2, 0, 2, 0, 1, 0, 1, 0, 0, 2);
        for (int set = 1; set < 8; set++) {
            for (int i = 0; i < 3; i++) {
                int from = i;
                int to = set;
                if ((set >> i & 1) != 0) {
                    dueFraction("from " + i + " to " + set, what -> x.steps(0, from, to, what),
                            0, 1);
                }
            }
        }
        dueFraction("from 0 to 2", what -> x.steps(0, 0, 4, what), 4, 1);
        dueFraction("from 1 to 2", what -> x.steps(0, 1, 4, what), 3, 1);
        dueFraction("from 1 to 0 or 2", what -> x.steps(0, 1, 5, what), 1, 1);
    }

    private static void stepsTold() {
        // 0 goes to 1, and at times to 3; 1 goes to 2; 2 goes to 0, and at times to 4; 3, 4 stay.
        BlendBench x = with(5, 60, cells(5, 0, 1, 59, 0, 3, 1, 1, 2, 60, 2, 0, 59, 2, 4, 1,
                3, 3, 60, 4, 4, 60));
        dueFraction("from 1 to 2, whatever comes behind it", what -> x.steps(0, 1, 4, what), 1, 1);
        dueFraction("from 2 to 0 or 4", what -> x.steps(0, 2, 17, what), 1, 1);
        dueFraction("from 0 to 1 or 3", what -> x.steps(0, 0, 10, what), 1, 1);
        throwsNone("from 0 to 1: 3 may come", () -> x.steps(0, 0, 2, 0));
        throwsNone("from 2 to 0: 4 may come", () -> x.steps(0, 2, 1, 0));
        throwsNone("from 1 to 3: 4 may come", () -> x.steps(0, 1, 8, 0));
        throwsNone("from 3 to 4", () -> x.steps(0, 3, 16, 0));
        throwsNone("from 3 to all others", () -> x.steps(0, 3, 23, 0));
        // A round is left by 1 less (59 by 60)^2 and takes 1 and twice 59 by 60 steps.
        dueFraction("from 0 to 3 or 4", what -> x.steps(0, 0, 24, what), 10680, 119);
        dueFraction("3 is in it", what -> x.steps(0, 3, 8, what), 0, 1);
    }

    private static void stepsToldOfTraps() {
        // 1 and 2 go in turn for ever; 0 may come to them, or to 3, which comes to 0 again.
        int[] bytes = cells(4, 0, 1, 1, 0, 3, 59, 1, 2, 60, 2, 1, 60, 3, 0, 60);
        BlendBench x = with(4, 60, bytes);
        throwsNone("from 0 to 3", () -> x.steps(0, 0, 8, 0));
        throwsNone("from 1 to 3", () -> x.steps(0, 1, 8, 0));
        dueFraction("from 3 to 0", what -> x.steps(0, 3, 1, what), 1, 1);
        dueFraction("from 0 to 1 or 3", what -> x.steps(0, 0, 10, what), 1, 1);
        dueFraction("from 0 to 2", what -> x.steps(0, 0, 4, what), 120, 1);
        // Now 2 leads back, by 1 by 60.
        bytes[9] = 59;
        bytes[8] = 1;
        sheet(x, 0, 4, 60, bytes);
        dueFraction("from 1 to 3", what -> x.steps(0, 1, 8, what), 7260, 59);
    }

    private static void ahead() {
        // 0 and 5 stay; 1 to 4 go by a half either way; 6 goes to itself and to 3; 7 to all.
        BlendBench x = with(8, 8, cells(8, 0, 0, 8, 1, 0, 4, 1, 2, 4, 2, 1, 4, 2, 3, 4, 3, 2, 4,
                3, 4, 4, 4, 3, 4, 4, 5, 4, 5, 5, 8, 6, 6, 7, 6, 3, 1, 7, 0, 1, 7, 1, 1, 7, 2, 1,
                7, 3, 1, 7, 4, 1, 7, 5, 1, 7, 6, 1, 7, 7, 1));
        long[][] want = {{0, 1}, {1, 5}, {2, 5}, {3, 5}, {4, 5}, {1, 1}, {3, 5}, {18, 35}};
        for (int i = 0; i < 8; i++) {
            int from = i;
            long up = want[i][0];
            long low = want[i][1];
            dueFraction("from " + i + " into 5 ahead of 0", what -> x.ahead(0, from, 32, 1, what),
                    up, low);
            dueFraction("from " + i + " into 0 ahead of 5", what -> x.ahead(0, from, 1, 32, what),
                    low - up, low - up == 0 ? 1 : low);
        }
        dueFraction("barred", what -> x.ahead(0, 2, 32, 8, what), 0, 1);
        dueFraction("sure", what -> x.ahead(0, 6, 8, 32, what), 1, 1);
        dueFraction("one of many", what -> x.ahead(0, 7, 127, 128, what), 0, 1);
        dueFraction("one of many", what -> x.ahead(0, 6, 63, 128, what), 1, 1);
    }

    private static void aheadOfNeither() {
        // From 1 to 0, 2 or 3, which all stay.
        BlendBench x = with(4, 60, 60, 0, 0, 0, 1, 0, 29, 30, 0, 0, 60, 0, 0, 0, 0, 60);
        dueFraction("may come to neither", what -> x.ahead(0, 1, 1, 4, what), 1, 60);
        dueFraction("may come to neither", what -> x.ahead(0, 1, 4, 1, what), 29, 60);
        dueFraction("comes to neither", what -> x.ahead(0, 3, 1, 4, what), 0, 1);
        dueFraction("comes to one", what -> x.ahead(0, 1, 9, 4, what), 31, 60);
    }

    // Terms: narrow

    private static void narrowHalf() {
        BlendBench x = with(2, 60, 30, 30, 30, 30);
        dueFraction("just a half", what -> x.narrow(0, what), 1, 2);
        due("just a half", x.cut(0), 1);
        // 0 has 31 by 60 and would be narrower.
        sheet(x, 0, 2, 60, 31, 29, 31, 29);
        dueFraction("0 has more than a half", what -> x.narrow(0, what), 31, 60);
        due("0 has more than a half", x.cut(0), 2);
        sheet(x, 0, 2, 60, 29, 31, 29, 31);
        dueFraction("1 has more than a half", what -> x.narrow(0, what), 31, 60);
        due("1 has more than a half", x.cut(0), 1);
        // 2 has a half, 0 and 1 together, too.
        sheet(x, 0, 3, 4, 1, 1, 2, 1, 1, 2, 1, 1, 2);
        dueFraction("two and one", what -> x.narrow(0, what), 1, 2);
        due("two and one", x.cut(0), 3);
        sheet(x, 0, 3, 60, 15, 14, 31, 15, 14, 31, 15, 14, 31);
        dueFraction("2 has more than a half", what -> x.narrow(0, what), 31, 60);
        due("2 has more than a half", x.cut(0), 3);
    }

    private static void narrowLike() {
        for (int n = 2; n <= 8; n++) {
            int[] alike = new int[n * n];
            Arrays.fill(alike, 1);
            BlendBench x = with(n, n, alike);
            int half = n / 2;
            // Of n / 2 states each set is as narrow: n less n / 2, by n.
            due("all alike, " + n, x.cut(0), (1 << half) - 1);
            due("narrow", x.narrow(0, 0) * n, (n - half) * x.narrow(0, 1));
        }
        // 0 has a half; it, 1, 2, and both of these together are alike.
        BlendBench x = with(3, 4, 2, 1, 1, 2, 2, 0, 2, 0, 2);
        dueFraction("alike", what -> x.narrow(0, what), 1, 2);
        due("1 of 1, 2, 4 and 6", x.cut(0), 1);
        // 0 has more than a half; 1, 2, and both together are alike.
        sheet(x, 0, 3, 6, 4, 1, 1, 3, 3, 0, 3, 0, 3);
        dueFraction("alike", what -> x.narrow(0, what), 1, 2);
        due("2 of 2, 4 and 6", x.cut(0), 2);
        sheet(x, 0, 3, 4, 0, 3, 1, 1, 2, 1, 1, 0, 3);
        due("3 is less than 4, with more states", x.cut(0), 3);
    }

    private static void narrowLeast() {
        // Two fours that hang together by 1 by 60 between 3 and 4.
        int[] bytes = new int[64];
        for (int i = 0; i < 8; i++) {
            for (int j = 0; j < 4; j++) {
                bytes[i * 8 + i / 4 * 4 + j] = 15;
            }
        }
        bytes[3 * 8 + 3] = bytes[4 * 8 + 4] = 14;
        bytes[3 * 8 + 4] = bytes[4 * 8 + 3] = 1;
        BlendBench x = with(8, 60, bytes);
        dueFraction("two fours", what -> x.narrow(0, what), 1, 240);
        due("two fours", x.cut(0), 15);
        // All have a third; the last one is left by 1 by 60.
        sheet(x, 1, 3, 60, 30, 30, 0, 30, 29, 1, 0, 1, 59);
        dueFraction("the last one", what -> x.narrow(1, what), 1, 60);
        due("the last one", x.cut(1), 4);
    }

    /** Eight states alike either way: two, three and three that hang together by 20 by 60. */
    private static int[] threeGroups(int outOfTwo, int outOfThree) {
        int[] bytes = new int[64];
        int[] group = {0, 0, 1, 1, 1, 2, 2, 2};
        for (int i = 0; i < 8; i++) {
            for (int j = 0; j < 8; j++) {
                bytes[i * 8 + j] = group[i] == group[j] ? 20 : 0;
            }
        }
        tie(bytes, 0, 5, (outOfTwo + 1) / 2);
        tie(bytes, 1, 6, outOfTwo / 2);
        tie(bytes, 2, 5, (outOfThree + 2) / 3);
        tie(bytes, 3, 6, (outOfThree + 1) / 3);
        tie(bytes, 4, 7, outOfThree / 3);
        for (int i = 0; i < 8; i++) {
            bytes[i * 8 + i] = 0;
            int sum = 0;
            for (int j = 0; j < 8; j++) {
                sum += bytes[i * 8 + j];
            }
            bytes[i * 8 + i] = 60 - sum;
        }
        return bytes;
    }

    private static void tie(int[] bytes, int i, int j, int by) {
        bytes[i * 8 + j] = by;
        bytes[j * 8 + i] = by;
    }

    private static void narrowByALittle() {
        // The two have outs by 120, the three by 180; to part a group takes more than either.
        for (int two = 2; two <= 9; two++) {
            for (int three = 3; three <= 14; three++) {
                BlendBench x = with(8, 60, threeGroups(two, three));
                boolean first = 3 * two <= 2 * three;
                long up = first ? two : three;
                long low = first ? 120 : 180;
                due(two + " by 120 or " + three + " by 180", x.cut(0), first ? 3 : 28);
                due("narrow", x.narrow(0, 0) * low, x.narrow(0, 1) * up);
            }
        }
    }

    // Terms: throwing

    private static void throwingChangesNothing() {
        thrown("octet", x -> x.octet(3));
        thrown("chance", x -> x.chance(0, 0, 0, 21, 0));
        thrown("apart", x -> x.apart(0, NONE, 0, 1, 0));
        thrown("stay", x -> x.stay(2, 0, 0));
        thrown("steps", x -> x.steps(2, 0, 2, 0));
        thrown("ahead", x -> x.ahead(0, 0, 1, 1, 0));
        thrown("narrow", x -> x.narrow(3, 0));
        // What is asked behind a call that throws has its own answer.
        BlendBench x = bench();
        dueFraction("ahead of it", what -> x.stay(0, 1, what), 3, 10);
        throwsNone("steps", () -> x.steps(2, 0, 2, 0));
        dueFraction("behind it", what -> x.stay(0, 1, what), 3, 10);
        throwsNone("narrow", () -> x.narrow(3, 0));
        due("cut behind it", x.cut(0), 3);
    }

    private static void chains() {
        holds("An object is used for at most 512 calls", TermsEdgeTest::fiveHundredAndTwelveCalls);
        holds("CHAINS lie in SLOTS 0 .. 5 (none at first)", TermsEdgeTest::slots);
        holds("STATES 0 .. n - 1 (n 1 to 8)", TermsEdgeTest::states);
        holds("the least with which all are whole", TermsEdgeTest::leastQ);
        holds("Q is 1 to 60", TermsEdgeTest::qBounds);
        holds("from each STATE they are Q together", TermsEdgeTest::togetherQ);
        holds("a row of steps of CHANCES above 0 from i to j", TermsEdgeTest::leads);
        holds("(none, if they are the same)", TermsEdgeTest::leadsToItself);
        holds("without a divisor in common", TermsEdgeTest::fractionsInLeastNumbers);
        holds("0 is 0 by 1", TermsEdgeTest::fractionOfZero);
        holds("its lower one (1), which is 1 or more", TermsEdgeTest::fractionOfOne);
        holds("A fraction is told by two numbers", TermsEdgeTest::fractionsOfGreatNumbers);
        holds("numbered by their least STATES, from 0 on", TermsEdgeTest::heaps);
        holds("CLOSED, if it LEADS to no other one", TermsEdgeTest::closed);
        holds("BEAT: the greatest number that divides the lengths", TermsEdgeTest::beats);
        holds("BEAT: of all rows of steps from it back to it", TermsEdgeTest::beatFarAway);
        holds("BEAT: (at least one step); 0, if there is none", TermsEdgeTest::beatOfNone);
        holds("WHOLE with one HEAP; EVEN, if the BEAT is 1, too", TermsEdgeTest::wholeAndEven);
    }

    private static void timesAndShares() {
        holds("Q, multiplied by itself t times, is 10^15 at most", TermsEdgeTest::times);
        holds("10^15 at most, but at most 20", TermsEdgeTest::timesAtTheirBounds);
        holds("(0: 1 if they are the same)", TermsEdgeTest::chanceInNoStep);
        holds("half of the sum of the differences (without sign)", TermsEdgeTest::apartHalfOfSum);
        holds("APART of a CHAIN: the greatest of any two.", TermsEdgeTest::apartGreatest);
        holds("the shares of STATES, 1 together", TermsEdgeTest::stay);
        holds("STAY of a CHAIN with just one CLOSED HEAP", TermsEdgeTest::stayOfOneClosedHeap);
        holds("BOTH WAYS: a WHOLE CHAIN, for any two STATES", TermsEdgeTest::bothWays);
        holds("BACK: share of j times the CHANCE, by the share of i", TermsEdgeTest::back);
        holds("LAZY: half of each CHANCE, and a half more", TermsEdgeTest::lazy);
    }

    public static void main(String[] args) {
        chains();
        timesAndShares();
        holds("those of one PART have one colour", TermsEdgeTest::partsOfOneColour);
        holds("the CHANCES to each PART, together, are alike", TermsEdgeTest::partsAlike);
        holds("from each of its STATES", TermsEdgeTest::partsThatSplit);
        holds("the fewest PARTS", TermsEdgeTest::partsFewest);
        holds("PARTS: numbered by their least STATES", TermsEdgeTest::partsNumbered);
        holds("STEPS: (0 in it)", TermsEdgeTest::stepsInIt);
        holds("told, if every STATE to which i LEADS ..", TermsEdgeTest::stepsTold);
        holds(".. without coming into the set LEADS to one of it", TermsEdgeTest::stepsToldOfTraps);
        holds("AHEAD: the CHANCE to come into a set ahead of another", TermsEdgeTest::ahead);
        holds("AHEAD: where it may come to neither", TermsEdgeTest::aheadOfNeither);
        holds("above 0 and a half at most", TermsEdgeTest::narrowHalf);
        holds("of like ones the set with the least bits", TermsEdgeTest::narrowLike);
        holds("NARROW: the least of what goes out by its share", TermsEdgeTest::narrowLeast);
        holds("NARROW: the least, by a little", TermsEdgeTest::narrowByALittle);
        holds("A call that throws changes nothing.", TermsEdgeTest::throwingChangesNothing);
        finish();
    }
}
