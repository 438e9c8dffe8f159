/** Promises 9 to 18, a test for each sentence: the boundary, and either side of it. */
public final class AskingEdgeTest extends Checks {
    private static final int[] NO_CHAINS = {5, -1, 6, 7, 32, MIN, MAX};
    // Slot 0 of a bench has three states; 32 and 33 are 0 and 1 to a shift.
    private static final int[] NO_STATES = {-1, 3, 4, 32, 33, MIN, MAX};
    private static final int[] NO_PARTS_OF_FRACTIONS = {-1, 2, 3, MIN, MAX};
    private static final int[] NO_SETS = {0, 8, 9, 15, 16, -1, -8, 256, MIN, MIN + 1, MAX};

    // Promise 9

    private static void aboutSizes() {
        for (int n = 1; n <= 8; n++) {
            BlendBench round = with(n, 1, ring(n));
            due("n", round.about(0, 0), n);
            due("Q", round.about(0, 1), 1);
            due("HEAPS of a round", round.about(0, 2), 1);
            due("CLOSED ones of a round", round.about(0, 3), 1);
            BlendBench apart = with(n, 1, apartForEver(n));
            due("HEAPS apart", apart.about(0, 2), n);
            due("CLOSED ones apart", apart.about(0, 3), n);
        }
    }

    private static void aboutTimes() {
        due("greatest of Q 1", bench().about(3, 4), 20);
        due("greatest of Q 4", bench().about(0, 4), 20);
        due("greatest of Q 60", bench().about(4, 4), 8);
    }

    private static void aboutWhole() {
        BlendBench x = bench();
        due("EVEN", x.about(0, 5), 2);
        due("one CLOSED HEAP of two", x.about(1, 5), 0);
        due("two CLOSED HEAPS", x.about(2, 5), 0);
        due("one STATE", x.about(3, 5), 2);
        for (int n = 2; n <= 8; n++) {
            BlendBench y = with(n, 1, ring(n));
            due("a round of " + n, y.about(0, 5), 1);
            y.lazy(0, 0);
            due("a lazy round of " + n, y.about(0, 5), 2);
        }
    }

    private static void aboutBothWays() {
        BlendBench x = bench();
        due("round", x.about(0, 6), 0);
        due("not WHOLE", x.about(1, 6), 0);
        due("not WHOLE, alike either way", x.about(2, 6), 0);
        due("one STATE", x.about(3, 6), 1);
        due("two STATES", x.about(4, 6), 1);
    }

    private static void aboutNone() {
        for (int s : NO_CHAINS) {
            for (int what = 0; what <= 6; what++) {
                due("about(" + s + ", " + what + ")", bench().about(s, what), NONE);
            }
        }
        int[] others = {-1, 7, 8, 32, MIN, MAX};
        for (int what : others) {
            refused("about(0, " + what + ")", x -> x.about(0, what));
        }
    }

    // Promise 10

    private static void stateAnswers() {
        BlendBench x = bench();
        int[][] want = {{0, 1, 1}, {1, 0, 1}, {1, 1, 1}};
        int[][] of = {{1, 0}, {1, 1}, {2, 1}};
        for (int k = 0; k < 3; k++) {
            for (int what = 0; what < 3; what++) {
                due("state(" + of[k][0] + ", " + of[k][1] + ", " + what + ")",
                        x.state(of[k][0], of[k][1], what), want[k][what]);
            }
        }
    }

    private static void stateNone() {
        for (int s : NO_CHAINS) {
            for (int what = 0; what <= 2; what++) {
                due("state(" + s + ", 0, " + what + ")", bench().state(s, 0, what), NONE);
            }
        }
        for (int i : NO_STATES) {
            for (int what = 0; what <= 2; what++) {
                due("state(0, " + i + ", " + what + ")", bench().state(0, i, what), NONE);
            }
        }
        int[] others = {-1, 3, 4, 32, MIN, MAX};
        for (int what : others) {
            refused("state(0, 0, " + what + ")", x -> x.state(0, 0, what));
        }
        for (int n = 1; n <= 8; n++) {
            BlendBench x = with(n, 1, apartForEver(n));
            due("the last of " + n, x.state(0, n - 1, 0), n - 1);
            due("behind the last of " + n, x.state(0, n, 0), NONE);
        }
    }

    // Promise 11

    private static void chanceNone() {
        for (int s : NO_CHAINS) {
            thrown("chance(" + s + ", 0, 0, 0, 0)", x -> x.chance(s, 0, 0, 0, 0));
        }
        for (int i : NO_STATES) {
            thrown("from " + i, x -> x.chance(0, i, 0, 0, 0));
            thrown("to " + i, x -> x.chance(0, 0, i, 0, 0));
            thrown("from and to " + i, x -> x.chance(0, i, i, 0, 0));
        }
        for (int what : NO_PARTS_OF_FRACTIONS) {
            thrown("what " + what, x -> x.chance(0, 0, 0, 0, what));
        }
        BlendBench x = bench();
        dueFraction("from 2 to 2", what -> x.chance(0, 2, 2, 1, what), 3, 4);
        dueFraction("from 0 to 2", what -> x.chance(0, 0, 2, 1, what), 1, 4);
        dueFraction("of one STATE", what -> x.chance(3, 0, 0, 20, what), 1, 1);
    }

    private static void chanceTimes() {
        int[] noTimes = {-1, 21, 22, 32, MIN, MAX};
        for (int t : noTimes) {
            thrown("t " + t + " of Q 4", x -> x.chance(0, 0, 0, t, 0));
            thrown("t " + t + " of Q 1", x -> x.chance(3, 0, 0, t, 0));
        }
        thrown("t 9 of Q 60", x -> x.chance(4, 0, 0, 9, 0));
        BlendBench x = bench();
        dueFraction("t 0 of Q 60", what -> x.chance(4, 0, 0, 0, what), 1, 1);
        // Half of 1 and of (29 by 30)^8.
        dueFraction("t 8 of Q 60", what -> x.chance(4, 0, 0, 8, what), 1156346412961L,
                1312200000000L);
        dueFraction("t 20 of Q 2", what -> x.chance(1, 1, 1, 20, what), 1, 1 << 20);
    }

    // Promise 12

    private static void apartNone() {
        for (int s : NO_CHAINS) {
            thrown("apart(" + s + ", 0, 0, 0, 0)", x -> x.apart(s, 0, 0, 0, 0));
            thrown("apart(" + s + ", NONE, NONE, 0, 0)", x -> x.apart(s, NONE, NONE, 0, 0));
        }
        for (int i : NO_STATES) {
            thrown("of " + i + " and 0", x -> x.apart(0, i, 0, 0, 0));
            thrown("of 0 and " + i, x -> x.apart(0, 0, i, 0, 0));
            if (i != NONE) {
                thrown("of " + i + " twice", x -> x.apart(0, i, i, 0, 0));
                thrown("of " + i + " and NONE", x -> x.apart(0, i, NONE, 0, 0));
                thrown("of NONE and " + i, x -> x.apart(0, NONE, i, 0, 0));
            }
        }
        thrown("of -2 twice", x -> x.apart(0, -2, -2, 0, 0));
        for (int what : NO_PARTS_OF_FRACTIONS) {
            thrown("what " + what, x -> x.apart(0, 0, 1, 0, what));
            thrown("of the CHAIN, what " + what, x -> x.apart(0, NONE, NONE, 0, what));
        }
    }

    private static void apartBothNone() {
        BlendBench x = bench();
        dueFraction("of 0 and 2", what -> x.apart(0, 0, 2, 1, what), 3, 4);
        dueFraction("of 2 and 0", what -> x.apart(0, 2, 0, 1, what), 3, 4);
        dueFraction("of 1 and 2", what -> x.apart(0, 1, 2, 1, what), 1, 2);
        dueFraction("of the CHAIN", what -> x.apart(0, NONE, NONE, 1, what), 3, 4);
        dueFraction("of one STATE's CHAIN", what -> x.apart(3, NONE, NONE, 1, what), 0, 1);
        dueFraction("of one STATE twice", what -> x.apart(3, 0, 0, 1, what), 0, 1);
    }

    private static void apartTimes() {
        int[] noTimes = {-1, 21, 22, 32, MIN, MAX};
        for (int t : noTimes) {
            thrown("t " + t + " of states", x -> x.apart(0, 0, 1, t, 0));
            thrown("t " + t + " of the CHAIN", x -> x.apart(0, NONE, NONE, t, 0));
        }
        thrown("t 9 of Q 60", x -> x.apart(4, 0, 1, 9, 0));
        thrown("t 9 of Q 60, of the CHAIN", x -> x.apart(4, NONE, NONE, 9, 0));
        BlendBench x = bench();
        dueFraction("t 0", what -> x.apart(4, 0, 1, 0, what), 1, 1);
        dueFraction("t 8", what -> x.apart(4, 0, 1, 8, what), 500246412961L, 656100000000L);
        dueFraction("t 8 of the CHAIN", what -> x.apart(4, NONE, NONE, 8, what), 500246412961L,
                656100000000L);
        dueFraction("t 20", what -> x.apart(1, 0, 1, 20, what), 1, 1 << 20);
        dueFraction("t 20, for ever", what -> x.apart(2, 0, 1, 20, what), 1, 1);
    }

    // Promise 13

    private static void whenAtMost() {
        // The two are apart by 1 by 4 to the t.
        BlendBench x = with(2, 4, 3, 1, 2, 2);
        due("1 by 1", x.when(0, 1, 1), 0);
        due("1000 by 1000", x.when(0, 1000, 1000), 0);
        due("999 by 1000", x.when(0, 999, 1000), 1);
        due("251 by 1000", x.when(0, 251, 1000), 1);
        due("250 by 1000", x.when(0, 250, 1000), 1);
        due("249 by 1000", x.when(0, 249, 1000), 2);
        due("1 by 255", x.when(0, 1, 255), 4);
        due("1 by 256", x.when(0, 1, 256), 4);
        due("1 by 257", x.when(0, 1, 257), 5);
    }

    private static void whenOfTheChain() {
        // 0 and 1 are alike after one step, 2 is by a half off at first.
        BlendBench x = with(3, 2, 1, 1, 0, 1, 1, 0, 0, 1, 1);
        due("below a half", x.when(0, 1, 3), 2);
        due("a half", x.when(0, 1, 2), 1);
    }

    private static void whenLastTime() {
        BlendBench x = with(2, 5, 4, 1, 0, 5);
        due("4 by 5, 20 times", x.when(0, 12, 1000), 20);
        due("4 by 5, 21 times", x.when(0, 11, 1000), NONE);
        sheet(x, 1, 2, 10, 9, 1, 0, 10);
        due("9 by 10, 15 times", x.when(1, 206, 1000), 15);
        due("9 by 10, 16 times", x.when(1, 205, 1000), NONE);
        sheet(x, 2, 2, 60, 59, 1, 1, 59);
        due("29 by 30, 8 times", x.when(2, 763, 1000), 8);
        due("29 by 30, 9 times", x.when(2, 762, 1000), NONE);
    }

    private static void whenNone() {
        due("never, 999 by 1000", bench().when(2, 999, 1000), NONE);
        due("never, 1 by 1", bench().when(2, 1, 1), 0);
        due("half of half, 0 by 1", bench().when(1, 0, 1), NONE);
        // Two for ever apart over 10, the greatest numbers that come.
        BlendBench x = with(4, 10, 10, 0, 0, 0, 9, 1, 0, 0, 0, 0, 9, 1, 0, 0, 0, 10);
        due("never over 10", x.when(0, 999, 1000), NONE);
        due("at once over 10", x.when(0, 1000, 1000), 0);
        for (int s : NO_CHAINS) {
            refused("when(" + s + ", 1, 1)", y -> y.when(s, 1, 1));
        }
    }

    private static void whenNumbers() {
        int[][] wrong = {{-1, 1}, {-1, 1000}, {MIN, 1}, {MIN, MAX}, {2, 1}, {1000, 999},
            {1001, 1000}, {1, 1001}, {0, 1001}, {1001, 1001}, {MAX, MAX}, {0, 0}, {0, -1},
            {-1, -1}, {-2, -1}, {MIN, MIN}, {0, MIN}, {1, 0}};
        for (int[] pair : wrong) {
            refused(pair[0] + " by " + pair[1], x -> x.when(3, pair[0], pair[1]));
        }
        int[][] right = {{0, 1}, {0, 1000}, {1, 1}, {1, 1000}, {999, 1000}, {1000, 1000},
            {999, 999}};
        for (int[] pair : right) {
            due(pair[0] + " by " + pair[1], bench().when(3, pair[0], pair[1]), 0);
        }
    }

    // Promise 14

    private static void stayNone() {
        for (int s : NO_CHAINS) {
            thrown("stay(" + s + ", 0, 0)", x -> x.stay(s, 0, 0));
        }
        for (int i : NO_STATES) {
            thrown("stay(0, " + i + ", 0)", x -> x.stay(0, i, 0));
        }
        for (int what : NO_PARTS_OF_FRACTIONS) {
            thrown("what " + what, x -> x.stay(0, 0, what));
        }
        BlendBench x = bench();
        dueFraction("of 0", what -> x.stay(0, 0, what), 1, 5);
        dueFraction("of 2", what -> x.stay(0, 2, what), 1, 2);
        dueFraction("of one STATE", what -> x.stay(3, 0, what), 1, 1);
    }

    private static void stayClosedHeaps() {
        thrown("two CLOSED HEAPS", x -> x.stay(2, 0, 0));
        thrown("two CLOSED HEAPS", x -> x.stay(2, 1, 1));
        // 2 leads to both others.
        BlendBench two = with(3, 2, 2, 0, 0, 0, 2, 0, 1, 1, 0);
        for (int i = 0; i < 3; i++) {
            int state = i;
            throwsNone("two and one that is not", () -> two.stay(0, state, 0));
        }
        BlendBench one = bench();
        dueFraction("the CLOSED one", what -> one.stay(1, 0, what), 1, 1);
        dueFraction("the other one", what -> one.stay(1, 1, what), 0, 1);
        BlendBench eight = with(8, 1, apartForEver(8));
        throwsNone("eight", () -> eight.stay(0, 7, 0));
    }

    // Promise 15

    private static void stepsNone() {
        for (int s : NO_CHAINS) {
            thrown("steps(" + s + ", 0, 1, 0)", x -> x.steps(s, 0, 1, 0));
        }
        for (int i : NO_STATES) {
            thrown("steps from " + i, x -> x.steps(0, i, 1, 0));
            thrown("steps from " + i + " to all", x -> x.steps(0, i, 7, 0));
        }
        for (int what : NO_PARTS_OF_FRACTIONS) {
            thrown("what " + what, x -> x.steps(0, 0, 4, what));
            thrown("in it, what " + what, x -> x.steps(0, 0, 1, what));
        }
    }

    private static void stepsSets() {
        for (int set : NO_SETS) {
            thrown("steps to " + set, x -> x.steps(0, 0, set, 0));
        }
        BlendBench x = bench();
        dueFraction("to 1", what -> x.steps(0, 2, 1, what), 4, 1);
        dueFraction("to 4", what -> x.steps(0, 0, 4, what), 4, 1);
        dueFraction("to 7", what -> x.steps(0, 2, 7, what), 0, 1);
        for (int n = 1; n <= 8; n++) {
            BlendBench y = with(n, 1, ring(n));
            int all = (1 << n) - 1;
            int last = 1 << n - 1;
            dueFraction("to all of " + n, what -> y.steps(0, 0, all, what), 0, 1);
            dueFraction("to the last of " + n, what -> y.steps(0, 0, last, what), n - 1, 1);
            throwsNone("behind the last", () -> y.steps(0, 0, all + 1, 0));
            throwsNone("all and one behind", () -> y.steps(0, 0, 2 * all + 1, 0));
            throwsNone("none", () -> y.steps(0, 0, 0, 0));
        }
    }

    private static void stepsNotTold() {
        thrown("from 0 never to 1", x -> x.steps(1, 0, 2, 0));
        thrown("apart for ever", x -> x.steps(2, 0, 2, 0));
        BlendBench x = bench();
        dueFraction("from 1 to 0", what -> x.steps(1, 1, 1, what), 2, 1);
        dueFraction("in it", what -> x.steps(1, 1, 2, what), 0, 1);
        dueFraction("in it, apart for ever", what -> x.steps(2, 1, 2, what), 0, 1);
    }

    // Promise 16

    private static void aheadNone() {
        for (int s : NO_CHAINS) {
            thrown("ahead(" + s + ", 0, 1, 2, 0)", x -> x.ahead(s, 0, 1, 2, 0));
        }
        for (int i : NO_STATES) {
            thrown("ahead from " + i, x -> x.ahead(0, i, 1, 2, 0));
        }
        for (int what : NO_PARTS_OF_FRACTIONS) {
            thrown("what " + what, x -> x.ahead(0, 2, 1, 2, what));
            thrown("in it, what " + what, x -> x.ahead(0, 0, 1, 2, what));
        }
    }

    private static void aheadSets() {
        for (int set : NO_SETS) {
            thrown("into " + set, x -> x.ahead(0, 2, set, 2, 0));
            thrown("ahead of " + set, x -> x.ahead(0, 2, 2, set, 0));
            thrown("both " + set, x -> x.ahead(0, 2, set, set, 0));
        }
        BlendBench x = with(8, 1, ring(8));
        dueFraction("into the last", what -> x.ahead(0, 1, 128, 1, what), 1, 1);
        dueFraction("ahead of the last", what -> x.ahead(0, 1, 1, 128, what), 0, 1);
        dueFraction("all between them", what -> x.ahead(0, 1, 170, 85, what), 1, 1);
        throwsNone("into 256", () -> x.ahead(0, 1, 256, 1, 0));
        throwsNone("ahead of 256", () -> x.ahead(0, 1, 1, 256, 0));
    }

    private static void aheadInCommon() {
        for (int set = 1; set < 8; set++) {
            for (int other = 1; other < 8; other++) {
                int a = set;
                int b = other;
                if ((set & other) != 0) {
                    thrown(set + " and " + other, x -> x.ahead(0, 0, a, b, 0));
                } else {
                    due(set + " and " + other, bench().ahead(0, 0, a, b, 1) >= 1, true);
                }
            }
        }
    }

    private static void aheadFromWithin() {
        for (int s : new int[] {1, 2, 4}) {
            BlendBench x = bench();
            dueFraction("from one in it", what -> x.ahead(s, 0, 1, 2, what), 1, 1);
            dueFraction("from one in the other", what -> x.ahead(s, 0, 2, 1, what), 0, 1);
            dueFraction("from one in it", what -> x.ahead(s, 1, 2, 1, what), 1, 1);
            dueFraction("from one in the other", what -> x.ahead(s, 1, 1, 2, what), 0, 1);
        }
        BlendBench x = bench();
        dueFraction("from 0 into 1 ahead of 2", what -> x.ahead(0, 0, 2, 4, what), 3, 4);
        dueFraction("from 0 into 2 ahead of 1", what -> x.ahead(0, 0, 4, 2, what), 1, 4);
    }

    // Promises 17 and 18

    private static void narrowNone() {
        for (int s : NO_CHAINS) {
            thrown("narrow(" + s + ", 0)", x -> x.narrow(s, 0));
            refused("cut(" + s + ")", x -> x.cut(s));
        }
        for (int what : NO_PARTS_OF_FRACTIONS) {
            thrown("what " + what, x -> x.narrow(0, what));
        }
        BlendBench x = bench();
        dueFraction("narrow(0)", what -> x.narrow(0, what), 1, 4);
        dueFraction("narrow(4)", what -> x.narrow(4, what), 1, 60);
    }

    private static void narrowNotWhole() {
        thrown("one CLOSED HEAP of two", x -> x.narrow(1, 0));
        thrown("two CLOSED HEAPS", x -> x.narrow(2, 1));
        BlendBench x = with(2, 60, 59, 1, 0, 60);
        throwsNone("no way back", () -> x.narrow(0, 0));
        sheet(x, 0, 2, 60, 59, 1, 1, 59);
        dueFraction("a way back", what -> x.narrow(0, what), 1, 60);
        // 1 and 2 alone would have a half each.
        sheet(x, 1, 3, 60, 59, 1, 0, 0, 30, 30, 0, 30, 30);
        throwsNone("a CLOSED HEAP of two of three", () -> x.narrow(1, 0));
        due("its cut", x.cut(1), NONE);
        sheet(x, 1, 3, 60, 59, 1, 0, 1, 29, 30, 0, 30, 30);
        dueFraction("a way back to 0", what -> x.narrow(1, what), 1, 60);
        due("its cut", x.cut(1), 1);
    }

    private static void narrowOneState() {
        thrown("one STATE", x -> x.narrow(3, 0));
        thrown("one STATE", x -> x.narrow(3, 1));
        BlendBench x = with(2, 1, 0, 1, 1, 0);
        dueFraction("two STATES", what -> x.narrow(0, what), 1, 1);
    }

    private static void cutWhereNarrow() {
        BlendBench x = bench();
        due("cut(0)", x.cut(0), 3);
        due("cut(4)", x.cut(4), 1);
        // After one that throws, nothing of another chain's set is told.
        refused("not WHOLE", y -> y.cut(0) == 3 ? y.cut(1) : 0);
        refused("two CLOSED HEAPS", y -> y.cut(0) == 3 ? y.cut(2) : 0);
        refused("one STATE", y -> y.cut(0) == 3 ? y.cut(3) : 0);
        for (int n = 2; n <= 8; n++) {
            BlendBench y = with(n, 1, ring(n));
            due("half of a round of " + n, y.cut(0), (1 << n / 2) - 1);
            dueFraction("out of it", what -> y.narrow(0, what), 1, n / 2);
        }
    }

    private static void promises9To12() {
        holds("9: 0 n, 1 Q, 2 HEAPS, 3 CLOSED ones", AskingEdgeTest::aboutSizes);
        holds("9: 4 the greatest of its TIMES", AskingEdgeTest::aboutTimes);
        holds("9: 5 0 not WHOLE, 1 WHOLE, 2 EVEN", AskingEdgeTest::aboutWhole);
        holds("9: 6 1 if BOTH WAYS, else 0", AskingEdgeTest::aboutBothWays);
        holds("9: NONE: no CHAIN, or another what.", AskingEdgeTest::aboutNone);
        holds("10: 0 its HEAP, 1 1 if that is CLOSED, 2 its BEAT", AskingEdgeTest::stateAnswers);
        holds("10: NONE: no CHAIN, no such STATE, or another what.", AskingEdgeTest::stateNone);
        holds("11: no CHAIN, no such STATES, or another what", AskingEdgeTest::chanceNone);
        holds("11: t is none of its TIMES", AskingEdgeTest::chanceTimes);
        holds("12: likewise below: no CHAIN, no such STATES", AskingEdgeTest::apartNone);
        holds("12: of the CHAIN, if both are NONE", AskingEdgeTest::apartBothNone);
        holds("12: likewise below: t is none of its TIMES", AskingEdgeTest::apartTimes);
    }

    private static void promises13To16() {
        holds("13: the CHAIN's APART is p by q at most", AskingEdgeTest::whenAtMost);
        holds("13: the CHAIN's APART", AskingEdgeTest::whenOfTheChain);
        holds("13: The least of the TIMES", AskingEdgeTest::whenLastTime);
        holds("13: NONE: none, no CHAIN", AskingEdgeTest::whenNone);
        holds("13: 0 <= p <= q <= 1000, q 1 at least", AskingEdgeTest::whenNumbers);
        holds("14: likewise below: no CHAIN, no such STATES", AskingEdgeTest::stayNone);
        holds("14: also with more CLOSED HEAPS than one", AskingEdgeTest::stayClosedHeaps);
        holds("15: likewise below: no CHAIN, no such STATES", AskingEdgeTest::stepsNone);
        holds("15: bits of its STATES alone, 1 at least", AskingEdgeTest::stepsSets);
        holds("15: also if they are not told", AskingEdgeTest::stepsNotTold);
        holds("16: likewise below: no CHAIN, no such STATES", AskingEdgeTest::aheadNone);
        holds("16: each as told at steps()", AskingEdgeTest::aheadSets);
        holds("16: nothing in common", AskingEdgeTest::aheadInCommon);
        holds("16: from one in it 1, from one in the other one 0", AskingEdgeTest::aheadFromWithin);
    }

    public static void main(String[] args) {
        promises9To12();
        promises13To16();
        holds("17: likewise below: no CHAIN, or another what", AskingEdgeTest::narrowNone);
        holds("17: also if it is not WHOLE", AskingEdgeTest::narrowNotWhole);
        holds("17: or has one STATE", AskingEdgeTest::narrowOneState);
        holds("18: NARROW's set; NONE where narrow() throws.", AskingEdgeTest::cutWhereNarrow);
        finish();
    }
}
