/** Promises 1 to 8 and 19, a test for each sentence: the boundary, and either side of it. */
public final class MakingEdgeTest extends Checks {
    private static final int[] NO_SLOTS = {-1, 6, 7, 32, MIN, MAX};

    // Promise 1

    private static void newObject() {
        BlendBench x = new BlendBench();
        due("CHAINS", x.count(0), 0);
        due("bytes of the tape", x.count(1), 0);
        due("bytes of OUT", x.count(2), 0);
        for (int s = 0; s < 6; s++) {
            due("about(" + s + ", 0)", x.about(s, 0), NONE);
        }
        due("end(0)", x.end(0), true);
        due("end(1)", x.end(1), false);
        throwsNone("octet(0)", () -> x.octet(0));
        throwsNone("octet(-1)", () -> x.octet(-1));
    }

    private static void newObjectsShareNothing() {
        BlendBench used = bench();
        BlendBench x = new BlendBench();
        due("a new one beside a used one", seen(x), seen(new BlendBench()));
        x.feed(0, 0, 0, 0, 0);
        sheet(x, 0, 1, 1, 1);
        melt(x, 0, 1, 9);
        due("the used one", seen(used), seen(bench()));
    }

    // Promise 2

    private static void feedTwentyBytesBehind() {
        BlendBench x = new BlendBench();
        x.feed(0x03FFFFFF, -1, -1, -1, -1);
        x.end(1);
        due("feed behind one byte", x.feed(0x01020200, 0, 0, 0, 0), 21);
        x.end(4);
        due("sheet", x.sheet(0, 2, 4), 4);
        dueChances(x, 0, 2, 4, 3, 1, 2, 2);
    }

    private static void feedHighestFirst() {
        // Bytes of four feeds: from each state to each other one another chance.
        int[] bytes = new int[64];
        for (int i = 0; i < 8; i++) {
            for (int j = 0; j < 7; j++) {
                bytes[i * 8 + j] = (i + j) % 8;
            }
            bytes[i * 8 + 7] = 60;
            for (int j = 0; j < 7; j++) {
                bytes[i * 8 + 7] -= bytes[i * 8 + j];
            }
        }
        BlendBench x = new BlendBench();
        for (int from = 0; from < 80; from += 20) {
            int[] five = new int[5];
            for (int k = 0; k < 20; k++) {
                five[k / 4] = five[k / 4] * 256 + (from + k < 64 ? bytes[from + k] : 99);
            }
            due("feed", x.feed(five[0], five[1], five[2], five[3], five[4]), from + 20);
        }
        x.end(64);
        due("sheet", x.sheet(0, 8, 60), 60);
        dueChances(x, 0, 8, 60, bytes);
    }

    private static void feedBytesWithoutSign() {
        BlendBench x = with(4, 4, 1, 1, 1, 1, 1, 1, 1, 1, 1, 1, 1, 1, 1, 1, 1, 1);
        int[] numbers = {-1, 0x7FFFFFFF, 0xFF7FFF7F, 0x80000000, 0x00000080, MIN + 1};
        int[] parts = {1, 2, 2, 2, 2, 3};
        for (int k = 0; k < numbers.length; k++) {
            x.feed(numbers[k], 0, 0, 0, 0);
            x.end(4);
            due("colours of " + numbers[k], x.melt(0, 1), parts[k]);
        }
        dueOut(x, 0, 1, 1, 2);
        // 255 and 5 are 260, not 4; as a byte with sign 255 would be -1, and they would be 4.
        x.feed(0xFF050000, 0, 0, 0, 0);
        x.end(4);
        due("255 and 5 over 4", x.sheet(1, 2, 4), NONE);
    }

    private static void feedToldLength() {
        BlendBench x = new BlendBench();
        for (int length = 20; length <= 80; length += 20) {
            due("feed", x.feed(1, 2, 3, 4, 5), length);
            due("count(1)", x.count(1), length);
        }
    }

    private static void feedUpToEighty() {
        for (int length = 59; length <= 80; length++) {
            BlendBench x = new BlendBench();
            x.feed(0x03010202, 0, 0, 0, 0);
            for (int k = 0; k < 3; k++) {
                x.feed(0, 0, 0, 0, 0);
            }
            x.end(length);
            boolean fits = length <= 60;
            due("feed behind " + length, x.feed(-1, -1, -1, -1, -1), fits ? length + 20 : NONE);
            due("bytes", x.count(1), fits ? length + 20 : length);
            due("one byte more", x.end(fits ? length + 21 : length + 1), false);
            x.end(4);
            due("the first bytes", x.sheet(0, 2, 4), 4);
            dueChances(x, 0, 2, 4, 3, 1, 2, 2);
        }
    }

    private static void feedRefusedBringsNone() {
        BlendBench x = new BlendBench();
        int[] bytes = new int[64];
        for (int i = 0; i < 8; i++) {
            bytes[i * 8 + 7 - i] = 1;
        }
        tape(x, bytes);
        due("feed behind 64", x.feed(0x09090909, 0x09090909, 0x09090909, 0x09090909, 0x09090909),
                NONE);
        due("the bytes as they were", x.sheet(0, 8, 1), 1);
        dueChances(x, 0, 8, 1, bytes);
    }

    // Promise 3

    private static void endFirstBytes() {
        for (int n = 0; n <= 20; n++) {
            BlendBench x = new BlendBench();
            x.feed(0x01000000, 0, 0, 0, 0);
            due("end(" + n + ") of 20", x.end(n), true);
            due("bytes", x.count(1), n);
            due("feed behind", x.feed(0, 0, 0, 0, 0), n + 20);
        }
    }

    private static void endFirstBytesAlone() {
        BlendBench x = new BlendBench();
        x.feed(0x02090909, -1, -1, -1, -1);
        x.end(1);
        x.feed(0x00010100, 0, 0, 0, 0);
        x.end(4);
        due("the bytes behind are gone", x.sheet(0, 2, 2), 2);
        dueChances(x, 0, 2, 2, 2, 0, 1, 1);
    }

    private static void endNotSoMany() {
        int[] lengths = {0, 1, 19, 20, 60, 79, 80};
        for (int length : lengths) {
            BlendBench x = new BlendBench();
            for (int k = 0; k < 4; k++) {
                x.feed(0, 0, 0, 0, 0);
            }
            x.end(length);
            due("end(" + (length + 1) + ") of " + length, x.end(length + 1), false);
            due("end(MAX) of " + length, x.end(MAX), false);
            due("bytes", x.count(1), length);
            due("end(" + length + ") of " + length, x.end(length), true);
            due("bytes", x.count(1), length);
        }
    }

    private static void endBelowZero() {
        int[] lengths = {0, 1, 20, 80};
        for (int length : lengths) {
            BlendBench x = new BlendBench();
            for (int k = 0; k < 4; k++) {
                x.feed(0, 0, 0, 0, 0);
            }
            x.end(length);
            due("end(-1) of " + length, x.end(-1), false);
            due("end(MIN) of " + length, x.end(MIN), false);
            due("bytes", x.count(1), length);
            due("end(0) of " + length, x.end(0), true);
            due("bytes", x.count(1), 0);
        }
    }

    // Promise 4

    private static void sheetInPlace() {
        BlendBench x = with(8, 1, ring(8));
        due("a smaller one", sheet(x, 0, 2, 3, 1, 2, 3, 0), 3);
        dueChances(x, 0, 2, 3, 1, 2, 3, 0);
        due("CHAINS", x.count(0), 1);
        due("HEAPS", x.about(0, 2), 1);
        due("state 2 is gone", x.state(0, 2, 0), NONE);
        due("a greater one", sheet(x, 0, 8, 1, apartForEver(8)), 1);
        dueChances(x, 0, 8, 1, apartForEver(8));
        due("HEAPS", x.about(0, 2), 8);
    }

    private static void sheetLeavesNothingOfTheOld() {
        BlendBench x = new BlendBench();
        // A slot's old chain may be the room of a new one: nothing of it is seen in that.
        for (int k = 0; k < 3; k++) {
            sheet(x, 0, 8, 1, ring(8));
            sheet(x, 0, 8, 60, cells(8, 0, 1, 60, 1, 0, 1, 1, 1, 59, 2, 3, 60, 3, 4, 60, 4, 5, 60,
                    5, 6, 60, 6, 7, 60, 7, 0, 60));
            sheet(x, 0, 3, 2, 0, 2, 0, 0, 1, 1, 0, 1, 1);
            dueFraction("share of 0", what -> x.stay(0, 0, what), 0, 1);
            dueFraction("share of 1", what -> x.stay(0, 1, what), 1, 2);
            due("HEAPS", x.about(0, 2), 2);
            due("BEAT", x.state(0, 0, 2), 0);
            sheet(x, 0, 2, 1, 1, 0, 0, 1);
            throwsNone("share of two CLOSED", () -> x.stay(0, 0, 0));
            due("cut", x.cut(0), NONE);
        }
    }

    private static void sheetEmptiesTape() {
        BlendBench x = new BlendBench();
        due("sheet", sheet(x, 0, 2, 4, 3, 1, 2, 2), 4);
        due("bytes", x.count(1), 0);
        due("sheet of no bytes", x.sheet(0, 2, 4), NONE);
        due("feed", x.feed(0, 0, 0, 0, 0), 20);
    }

    private static void sheetOrder() {
        BlendBench x = with(3, 6, 1, 2, 3, 0, 4, 2, 6, 0, 0);
        dueFraction("from 0 to 2", what -> x.chance(0, 0, 2, 1, what), 1, 2);
        dueFraction("from 2 to 0", what -> x.chance(0, 2, 0, 1, what), 1, 1);
        dueFraction("from 1 to 0", what -> x.chance(0, 1, 0, 1, what), 0, 1);
    }

    private static void sheetSlots() {
        BlendBench x = new BlendBench();
        for (int s = 0; s < 6; s++) {
            due("sheet(" + s + ", 2, 60)", sheet(x, s, 2, 60, 59 - s, 1 + s, 0, 60) > 0, true);
            due("CHAINS", x.count(0), s + 1);
        }
        for (int s = 0; s < 6; s++) {
            dueFraction("SLOT " + s + " has its own", fractionOf(x, s), 1 + s, 60);
        }
        for (int s : NO_SLOTS) {
            refusedTaking("sheet(" + s + ", 1, 1)", y -> y.sheet(s, 1, 1), 1);
        }
    }

    /** The chance from 0 to 1, times what makes its lower number 60. */
    private static Telling fractionOf(BlendBench x, int s) {
        return what -> what == 1 ? 60 : x.chance(s, 0, 1, 1, 0) * 60 / x.chance(s, 0, 1, 1, 1);
    }

    private static void sheetSizes() {
        for (int n = 1; n <= 8; n++) {
            BlendBench x = with(n, 1, ring(n));
            due("n", x.about(0, 0), n);
            due("state n - 1", x.state(0, n - 1, 2), n);
            due("state n", x.state(0, n, 2), NONE);
        }
        refusedTaking("n 0 of no bytes", x -> x.sheet(0, 0, 1));
        refusedTaking("n 0 of one byte", x -> x.sheet(0, 0, 1), 1);
        refusedTaking("n 9 of 80 bytes", x -> x.sheet(0, 9, 1), new int[80]);
        refusedTaking("n 9 of 64 bytes", x -> x.sheet(0, 9, 1), ring(8));
        refusedTaking("n -1 of one byte", x -> x.sheet(0, -1, 1), 1);
        refusedTaking("n -8 of 64 bytes", x -> x.sheet(0, -8, 1), ring(8));
    }

    private static void sheetSizesThatWrap() {
        // As ints 65536 times 65536 is 0, and 32769 times 32769 is 65537.
        refusedTaking("n 65536", x -> x.sheet(0, 65536, 1));
        refusedTaking("n -65536", x -> x.sheet(0, -65536, 1));
        refusedTaking("n MIN", x -> x.sheet(0, MIN, 1));
        refusedTaking("n MAX of one byte", x -> x.sheet(0, MAX, 1), 1);
        refusedTaking("n 2^31 - 2 of four bytes", x -> x.sheet(0, MAX - 1, 1), 1, 0, 0, 1);
    }

    private static void sheetOver() {
        for (int q = 1; q <= 60; q++) {
            BlendBench x = new BlendBench();
            due("q " + q, sheet(x, 0, 2, q, 1, q - 1, 0, q), q);
        }
        refusedTaking("q 0, bytes 0", x -> x.sheet(0, 1, 0), 0);
        refusedTaking("q 61", x -> x.sheet(0, 1, 61), 61);
        // 122 by 122 would be 1 by 1, but q is told as 122.
        refusedTaking("q 122", x -> x.sheet(0, 1, 122), 122);
        refusedTaking("q 255", x -> x.sheet(0, 1, 255), 255);
        refusedTaking("q -1", x -> x.sheet(0, 1, -1), 255);
        refusedTaking("q MIN", x -> x.sheet(0, 1, MIN), 0);
        refusedTaking("q MAX", x -> x.sheet(0, 1, MAX), 255);
    }

    private static void sheetBytes() {
        for (int n = 1; n <= 8; n++) {
            int size = n;
            int[] right = ring(n);
            int[] fewer = java.util.Arrays.copyOf(right, n * n - 1);
            int[] more = java.util.Arrays.copyOf(right, n * n + 1);
            refusedTaking("a byte less than " + n * n, x -> x.sheet(5, size, 1), fewer);
            refusedTaking("a byte more than " + n * n, x -> x.sheet(5, size, 1), more);
            BlendBench x = bench();
            due("just " + n * n, sheet(x, 5, n, 1, right), 1);
        }
        refusedTaking("no bytes", x -> x.sheet(5, 1, 1));
    }

    private static void sheetBytesTogether() {
        for (int row = 0; row < 3; row++) {
            for (int more = -1; more <= 1; more++) {
                int[] bytes = {1, 2, 2, 0, 5, 0, 2, 2, 1};
                bytes[row * 3 + 1] += more;
                if (more != 0) {
                    refusedTaking("row " + row + " with " + (5 + more), x -> x.sheet(0, 3, 5),
                            bytes);
                } else {
                    due("each row has 5", sheet(bench(), 0, 3, 5, bytes), 5);
                }
            }
        }
        refusedTaking("a row of 0", x -> x.sheet(0, 2, 1), 1, 0, 0, 0);
        refusedTaking("one row has what the other lacks", x -> x.sheet(0, 2, 2), 2, 1, 1, 0);
        refusedTaking("columns have q, rows have not", x -> x.sheet(0, 2, 3), 1, 1, 2, 2);
        refusedTaking("256 more", x -> x.sheet(0, 2, 4), 200, 60, 2, 2);
    }

    private static void sheetToldQ() {
        BlendBench x = new BlendBench();
        due("2 by 6 and 4 by 6", sheet(x, 0, 2, 6, 2, 4, 6, 0), 3);
        due("about", x.about(0, 1), 3);
        due("halves and thirds", sheet(x, 0, 2, 60, 30, 30, 20, 40), 6);
        due("60 by 60", sheet(x, 0, 1, 60, 60), 1);
        due("1 by 60", sheet(x, 0, 2, 60, 60, 0, 1, 59), 60);
        due("2 by 60", sheet(x, 0, 2, 60, 60, 0, 2, 58), 30);
    }

    // Promise 5

    private static void lazyQ() {
        BlendBench x = bench();
        due("of 4", x.lazy(0, 5), 8);
        dueChances(x, 5, 3, 8, 4, 3, 1, 1, 6, 1, 1, 0, 7);
        due("of one STATE", x.lazy(3, 5), 1);
        dueChances(x, 5, 1, 1, 1);
        due("s stays", x.about(0, 1), 4);
    }

    private static void lazyInPlace() {
        BlendBench x = bench();
        due("into itself", x.lazy(0, 0), 8);
        dueChances(x, 0, 3, 8, 4, 3, 1, 1, 6, 1, 1, 0, 7);
        due("in the place of another one", x.lazy(1, 0), 4);
        dueChances(x, 0, 2, 4, 4, 0, 1, 3);
        due("CHAINS", x.count(0), 5);
    }

    private static void lazyNoChain() {
        refused("lazy(5, 0)", x -> x.lazy(5, 0));
        refused("lazy(5, 5)", x -> x.lazy(5, 5));
        for (int s : NO_SLOTS) {
            refused("lazy(" + s + ", 0)", x -> x.lazy(s, 0));
        }
    }

    private static void lazyNoSlot() {
        for (int t : NO_SLOTS) {
            refused("lazy(0, " + t + ")", x -> x.lazy(0, t));
        }
        BlendBench x = bench();
        due("lazy(1, 0)", x.lazy(1, 0), 4);
        due("lazy(1, 5)", x.lazy(1, 5), 4);
        due("CHAINS", x.count(0), 6);
    }

    private static void lazyAboveSixty() {
        for (int q = 2; q <= 60; q++) {
            BlendBench x = new BlendBench();
            sheet(x, 0, 2, q, 1, q - 1, q - 1, 1);
            sheet(x, 1, 1, 1, 1);
            // With an odd Q and even ways out the half makes no finer fractions.
            int due = q % 2 == 1 ? q : 2 * q <= 60 ? 2 * q : NONE;
            due("lazy of " + q, x.lazy(0, 1), due);
            due("Q in t", x.about(1, 1), due == NONE ? 1 : due);
        }
        for (int q = 3; q <= 59; q += 2) {
            BlendBench x = with(2, q, q - 1, 1, 1, q - 1);
            due("lazy of " + q + ", odd ways out", x.lazy(0, 1), 2 * q <= 60 ? 2 * q : NONE);
        }
        refused("lazy of 60 into another", x -> x.lazy(4, 0));
        refused("lazy of 60 into itself", x -> x.lazy(4, 4));
        refused("lazy of 60 into none", x -> x.lazy(4, 5));
    }

    private static void lazyTakesNoBytes() {
        BlendBench x = bench();
        x.lazy(0, 1);
        due("bytes", x.count(1), 4);
        dueOut(x, 0, 0, 0);
    }

    // Promise 6

    private static void backQ() {
        BlendBench x = bench();
        due("of 4", x.back(0, 5), 40);
        dueChances(x, 5, 3, 40, 0, 15, 25, 20, 20, 0, 4, 6, 30);
        due("of one STATE", x.back(3, 5), 1);
        dueChances(x, 5, 1, 1, 1);
        due("s stays", x.about(0, 1), 4);
        due("bytes stay", x.count(1), 4);
        dueOut(x, 0, 0, 0);
    }

    private static void backInPlace() {
        BlendBench x = bench();
        due("into itself", x.back(0, 0), 40);
        due("and back", x.back(0, 0), 4);
        dueChances(x, 0, 3, 4, 0, 3, 1, 1, 2, 1, 1, 0, 3);
        due("in the place of another one", x.back(4, 0), 60);
        dueChances(x, 0, 2, 60, 59, 1, 1, 59);
        due("CHAINS", x.count(0), 5);
    }

    private static void backNotWhole() {
        refused("one CLOSED HEAP of two", x -> x.back(1, 5));
        refused("into another", x -> x.back(1, 0));
        refused("into itself", x -> x.back(1, 1));
        refused("two CLOSED HEAPS", x -> x.back(2, 5));
        // The way back from the last state is what makes it WHOLE.
        BlendBench x = with(3, 60, 0, 60, 0, 0, 0, 60, 0, 0, 60);
        due("without a way back", x.back(0, 1), NONE);
        due("CHAINS", x.count(0), 1);
        sheet(x, 0, 3, 60, 0, 60, 0, 0, 0, 60, 1, 0, 59);
        due("with one by 60", x.back(0, 1), 60);
        dueChances(x, 1, 3, 60, 0, 0, 60, 60, 0, 0, 0, 1, 59);
    }

    private static void backUpToSixty() {
        for (int q = 2; q <= 60; q++) {
            BlendBench x = with(2, q, 1, q - 1, q - 1, 1);
            due("back of " + q + ", BOTH WAYS", x.back(0, 1), q);
            dueChances(x, 1, 2, q, 1, q - 1, q - 1, 1);
        }
    }

    private static void backAboveSixty() {
        BlendBench x = with(3, 4, 0, 0, 4, 1, 1, 2, 1, 2, 1);
        due("60", x.back(0, 1), 60);
        dueChances(x, 1, 3, 60, 0, 24, 36, 0, 15, 45, 25, 20, 15);
        // Sevenths and ninths: 63.
        sheet(x, 0, 3, 3, 0, 0, 3, 1, 0, 2, 2, 1, 0);
        due("63", x.back(0, 1), NONE);
        due("t stays", x.about(1, 1), 60);
        due("63 into itself", x.back(0, 0), NONE);
        due("63 into none", x.back(0, 2), NONE);
        due("CHAINS", x.count(0), 2);
        // 5 by 61 and 56 by 61 back from 2.
        sheet(x, 0, 3, 24, 0, 10, 14, 21, 0, 3, 24, 0, 0);
        due("61 times 96", x.back(0, 1), NONE);
        due("t stays", x.about(1, 1), 60);
        // Eight states with a long round: shares of 60^7 by 1.
        int[] far = new int[64];
        for (int i = 0; i < 8; i++) {
            far[i * 8] += 59;
            far[i * 8 + Math.min(i + 1, 7)] += 1;
        }
        sheet(x, 0, 8, 60, far);
        due("far above", x.back(0, 1), NONE);
        dueChances(x, 1, 3, 60, 0, 24, 36, 0, 15, 45, 25, 20, 15);
    }

    private static void backNoChain() {
        refused("back(5, 0)", x -> x.back(5, 0));
        for (int s : NO_SLOTS) {
            refused("back(" + s + ", 0)", x -> x.back(s, 0));
        }
    }

    private static void backNoSlot() {
        for (int t : NO_SLOTS) {
            refused("back(0, " + t + ")", x -> x.back(0, t));
        }
        BlendBench x = bench();
        due("back(4, 0)", x.back(4, 0), 60);
        due("back(4, 5)", x.back(4, 5), 60);
        due("CHAINS", x.count(0), 6);
    }

    // Promise 7

    private static void meltParts() {
        BlendBench x = bench();
        due("all of one colour", melt(x, 0, 5, 0, 0, 0), 1);
        dueOut(x, 0, 0, 0);
        dueChances(x, 5, 1, 1, 1);
        due("each its own", melt(x, 0, 5, 255, 0, 128), 3);
        dueOut(x, 0, 1, 2);
        dueChances(x, 5, 3, 4, 0, 3, 1, 1, 2, 1, 1, 0, 3);
        due("0 and 1 are alike", melt(x, 0, 5, 1, 1, 255), 2);
        dueOut(x, 0, 0, 1);
        dueChances(x, 5, 2, 4, 3, 1, 1, 3);
        due("s stays", x.about(0, 0), 3);
    }

    private static void meltOutFull() {
        BlendBench x = with(8, 1, ring(8));
        due("eight PARTS", melt(x, 0, 1, 1, 0, 0, 0, 0, 0, 0, 0), 8);
        dueOut(x, 0, 1, 2, 3, 4, 5, 6, 7);
        due("two PARTS", melt(x, 0, 2, 1, 0, 1, 0, 1, 0, 1, 0), 2);
        dueOut(x, 0, 1, 0, 1, 0, 1, 0, 1);
        due("a shorter OUT", melt(x, 2, 3, 5, 5), 1);
        dueOut(x, 0, 0);
        throwsNone("octet(2)", () -> x.octet(2));
    }

    private static void meltInPlace() {
        BlendBench x = bench();
        due("into itself", melt(x, 0, 0, 1, 1, 2), 2);
        dueChances(x, 0, 2, 4, 3, 1, 1, 3);
        dueOut(x, 0, 0, 1);
        due("in the place of another one", melt(x, 4, 0, 1, 1), 1);
        dueChances(x, 0, 1, 1, 1);
        due("CHAINS", x.count(0), 5);
    }

    private static void meltEmptiesTape() {
        BlendBench x = bench();
        tape(x, 1, 1, 2);
        due("melt", x.melt(0, 5), 2);
        due("bytes", x.count(1), 0);
        due("melt again", x.melt(0, 5), NONE);
        dueOut(x, 0, 0, 1);
    }

    private static void meltBytes() {
        refusedTaking("no bytes of three", x -> x.melt(0, 5));
        refusedTaking("two of three", x -> x.melt(0, 5), 1, 1);
        refusedTaking("four of three", x -> x.melt(0, 5), 1, 1, 1, 1);
        refusedTaking("two of three into itself", x -> x.melt(0, 0), 1, 1);
        refusedTaking("no byte of one", x -> x.melt(3, 5));
        refusedTaking("two of one", x -> x.melt(3, 5), 1, 1);
        due("three of three", melt(bench(), 0, 5, 1, 1, 1), 1);
        due("one of one", melt(bench(), 3, 5, 1), 1);
        BlendBench x = with(8, 1, apartForEver(8));
        due("seven of eight", melt(x, 0, 1, 1, 1, 1, 1, 1, 1, 1), NONE);
        due("nine of eight", melt(x, 0, 1, 1, 1, 1, 1, 1, 1, 1, 1, 1), NONE);
        due("OUT is as it was", x.count(2), 0);
        due("eight of eight", melt(x, 0, 1, 1, 1, 1, 1, 1, 1, 1, 1), 1);
    }

    private static void meltNoChain() {
        refusedTaking("no CHAIN, no bytes", x -> x.melt(5, 0));
        refusedTaking("no CHAIN", x -> x.melt(5, 0), 1, 1);
        for (int s : NO_SLOTS) {
            refusedTaking("melt(" + s + ", 0)", x -> x.melt(s, 0), 1, 1, 1);
        }
    }

    private static void meltNoSlot() {
        for (int t : NO_SLOTS) {
            refusedTaking("melt(0, " + t + ")", x -> x.melt(0, t), 1, 1, 1);
        }
        BlendBench x = bench();
        due("melt(4, 0)", melt(x, 4, 0, 1, 2), 2);
        due("melt(4, 5)", melt(x, 4, 5, 1, 2), 2);
        due("CHAINS", x.count(0), 6);
    }

    // Promise 8

    private static void octetOfOut() {
        BlendBench x = with(8, 1, ring(8));
        melt(x, 0, 1, 9, 8, 9, 8, 9, 8, 9, 8);
        for (int k = 0; k < 8; k++) {
            due("octet(" + k + ")", x.octet(k), k % 2);
        }
        throwsNone("octet(8)", () -> x.octet(8));
        throwsNone("octet(-1)", () -> x.octet(-1));
    }

    private static void octetNone() {
        thrown("octet(3) of three", x -> x.octet(3));
        thrown("octet(-1)", x -> x.octet(-1));
        thrown("octet(MIN)", x -> x.octet(MIN));
        thrown("octet(MAX)", x -> x.octet(MAX));
        due("octet(2) of three", bench().octet(2), 0);
        BlendBench x = with(1, 1, 1);
        throwsNone("octet(0) of none", () -> x.octet(0));
        melt(x, 0, 0, 7);
        due("octet(0) of one", x.octet(0), 0);
        throwsNone("octet(1) of one", () -> x.octet(1));
    }

    // Promise 19

    private static void countChains() {
        BlendBench x = new BlendBench();
        for (int s = 5; s >= 0; s--) {
            due("CHAINS", x.count(0), 5 - s);
            sheet(x, s, 1, 1, 1);
        }
        due("all SLOTS", x.count(0), 6);
        sheet(x, 3, 1, 1, 1);
        due("in the place of one", x.count(0), 6);
        x.sheet(3, 1, 1);
        due("after a refused one", x.count(0), 6);
    }

    private static void countBytes() {
        BlendBench x = new BlendBench();
        due("none", x.count(1), 0);
        for (int k = 1; k <= 4; k++) {
            x.feed(0, 0, 0, 0, 0);
            due("bytes", x.count(1), 20 * k);
        }
        x.feed(0, 0, 0, 0, 0);
        due("full", x.count(1), 80);
        x.end(1);
        due("one", x.count(1), 1);
        x.end(0);
        due("none", x.count(1), 0);
    }

    private static void countOut() {
        for (int n = 1; n <= 8; n++) {
            BlendBench x = with(n, 1, ring(n));
            due("none", x.count(2), 0);
            melt(x, 0, 0, new int[n]);
            due("a byte for each STATE", x.count(2), n);
            due("not for each PART", x.about(0, 0), 1);
        }
    }

    private static void countAnother() {
        int[] others = {-1, 3, 4, MIN, MAX};
        for (int what : others) {
            refused("count(" + what + ")", x -> x.count(what));
        }
    }

    private static void promises1To3() {
        holds("1: No CHAINS; an empty tape, OUT.", MakingEdgeTest::newObject);
        holds("1: A new object", MakingEdgeTest::newObjectsShareNothing);
        holds("2: Twenty bytes come behind the tape", MakingEdgeTest::feedTwentyBytesBehind);
        holds("2: of each number the highest first", MakingEdgeTest::feedHighestFirst);
        holds("2: bytes", MakingEdgeTest::feedBytesWithoutSign);
        holds("2: how many it has", MakingEdgeTest::feedToldLength);
        holds("2: if it would have more than 80", MakingEdgeTest::feedUpToEighty);
        holds("2: NONE, and none come", MakingEdgeTest::feedRefusedBringsNone);
        holds("3: The tape has its first n bytes", MakingEdgeTest::endFirstBytes);
        holds("3: alone", MakingEdgeTest::endFirstBytesAlone);
        holds("3: false, if it has not so many", MakingEdgeTest::endNotSoMany);
        holds("3: or n is below 0", MakingEdgeTest::endBelowZero);
    }

    private static void promise4() {
        holds("4: in the place of what is there", MakingEdgeTest::sheetInPlace);
        holds("4: in the place of all that is there", MakingEdgeTest::sheetLeavesNothingOfTheOld);
        holds("4: empty then, here and below", MakingEdgeTest::sheetEmptiesTape);
        holds("4: from 0 to all others, from 1 ..", MakingEdgeTest::sheetOrder);
        holds("4: no such SLOT", MakingEdgeTest::sheetSlots);
        holds("4: n not 1 to 8", MakingEdgeTest::sheetSizes);
        holds("4: n times n bytes, n not 1 to 8", MakingEdgeTest::sheetSizesThatWrap);
        holds("4: q not 1 to 60", MakingEdgeTest::sheetOver);
        holds("4: not so many bytes", MakingEdgeTest::sheetBytes);
        holds("4: some of them are not q together", MakingEdgeTest::sheetBytesTogether);
        holds("4: are CHANCES over q: Q", MakingEdgeTest::sheetToldQ);
    }

    private static void promises5And6() {
        holds("5: SLOT t is the LAZY CHAIN of s: Q", MakingEdgeTest::lazyQ);
        holds("5: SLOT t is the LAZY CHAIN, in any place", MakingEdgeTest::lazyInPlace);
        holds("5: NONE, and t stays: no CHAIN", MakingEdgeTest::lazyNoChain);
        holds("5: no such SLOT", MakingEdgeTest::lazyNoSlot);
        holds("5: Q would be above 60", MakingEdgeTest::lazyAboveSixty);
        holds("5: the tape and OUT are left", MakingEdgeTest::lazyTakesNoBytes);
        holds("6: SLOT t is the CHAIN of s BACK: Q", MakingEdgeTest::backQ);
        holds("6: SLOT t is the CHAIN of s BACK, in any place", MakingEdgeTest::backInPlace);
        holds("6: NONE also if s is not WHOLE", MakingEdgeTest::backNotWhole);
        holds("6: likewise below: Q is 60 at most", MakingEdgeTest::backUpToSixty);
        holds("6: likewise below: Q would be above 60", MakingEdgeTest::backAboveSixty);
        holds("6: likewise below: no CHAIN", MakingEdgeTest::backNoChain);
        holds("6: likewise below: no such SLOT", MakingEdgeTest::backNoSlot);
    }

    private static void promises7And8() {
        holds("7: the tape's bytes being colours: how many PARTS", MakingEdgeTest::meltParts);
        holds("7: OUT is one byte for each STATE", MakingEdgeTest::meltOutFull);
        holds("7: SLOT t is the CHAIN of s MELTED, in any place", MakingEdgeTest::meltInPlace);
        holds("7: (empty then, here and below)", MakingEdgeTest::meltEmptiesTape);
        holds("7: not as many bytes as STATES", MakingEdgeTest::meltBytes);
        holds("7: likewise below: no CHAIN", MakingEdgeTest::meltNoChain);
        holds("7: likewise below: no such SLOT", MakingEdgeTest::meltNoSlot);
        holds("8: Byte k of OUT.", MakingEdgeTest::octetOfOut);
        holds("8: NoSuchElementException: there is none such.", MakingEdgeTest::octetNone);
    }

    public static void main(String[] args) {
        promises1To3();
        promise4();
        promises5And6();
        promises7And8();
        holds("19: 0 CHAINS", MakingEdgeTest::countChains);
        holds("19: 1 bytes of the tape", MakingEdgeTest::countBytes);
        holds("19: 2 of OUT", MakingEdgeTest::countOut);
        holds("19: NONE for another what.", MakingEdgeTest::countAnother);
        finish();
    }
}
