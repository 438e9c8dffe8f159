/** Each promise by hand: ordinary inputs, the edges that the document names, wrong inputs. */
public final class PromisesTest extends Checks {
    private static void dueFraction(String call, long up, long low, long wantUp, long wantLow) {
        due(call + " upper", up, wantUp);
        due(call + " lower", low, wantLow);
    }

    private static void newObject() {
        BlendBench x = new BlendBench();
        due("count(0)", x.count(0), 0);
        due("count(1)", x.count(1), 0);
        due("count(2)", x.count(2), 0);
        for (int s = -1; s <= 6; s++) {
            due("about", x.about(s, 0), NONE);
        }
        throwsNone("octet(0)", () -> x.octet(0));
    }

    private static void feed() {
        BlendBench x = new BlendBench();
        for (int k = 1; k <= 4; k++) {
            due("feed", x.feed(k, -k, k, -k, k), 20 * k);
        }
        due("feed beyond 80", x.feed(1, 2, 3, 4, 5), NONE);
        due("bytes", x.count(1), 80);
        x.end(61);
        due("feed at 61", x.feed(0, 0, 0, 0, 0), NONE);
        due("bytes", x.count(1), 61);
        x.end(60);
        due("feed at 60", x.feed(0, 0, 0, 0, 0), 80);
        x.end(0);
        due("feed", x.feed(0x01020300, 0x04020600, 0, 0, 0), 20);
        due("end(9)", x.end(9), true);
        due("highest bytes first", x.sheet(0, 3, 6), 6);
        dueChances(x, 0, 3, 6, 1, 2, 3, 0, 4, 2, 6, 0, 0);
    }

    private static void end() {
        BlendBench x = new BlendBench();
        due("end(0) of none", x.end(0), true);
        due("end(1) of none", x.end(1), false);
        x.feed(0x01000000, 0, 0, 0, 0);
        due("end(21)", x.end(21), false);
        due("end(-1)", x.end(-1), false);
        due("end(MIN)", x.end(Integer.MIN_VALUE), false);
        due("end(MAX)", x.end(Integer.MAX_VALUE), false);
        due("bytes", x.count(1), 20);
        due("end(20)", x.end(20), true);
        due("end(1)", x.end(1), true);
        due("bytes", x.count(1), 1);
        due("end(2)", x.end(2), false);
        due("the first byte is left", x.sheet(0, 1, 1), 1);
    }

    private static void sheets() {
        BlendBench x = new BlendBench();
        due("sheet", sheet(x, 0, 2, 6, 2, 4, 6, 0), 3);
        dueChances(x, 0, 2, 3, 1, 2, 3, 0);
        due("tape is empty", x.count(1), 0);
        due("SLOT 6", sheet(x, 6, 1, 1, 1), NONE);
        due("tape is empty", x.count(1), 0);
        due("SLOT -1", sheet(x, -1, 1, 1, 1), NONE);
        due("n 0", sheet(x, 0, 0, 1), NONE);
        due("n -1", sheet(x, 0, -1, 1, 1), NONE);
        due("tape is empty", x.count(1), 0);
        due("n 9", sheet(x, 0, 9, 1, new int[80]), NONE);
        due("n 65536", sheet(x, 0, 65536, 1), NONE);
        due("q 0", sheet(x, 0, 1, 0, 0), NONE);
        due("q -1", sheet(x, 0, 1, -1, 255), NONE);
        due("q 61", sheet(x, 0, 1, 61, 61), NONE);
        due("too few bytes", sheet(x, 0, 2, 1, 1, 0, 0), NONE);
        due("tape is empty", x.count(1), 0);
        due("too many bytes", sheet(x, 0, 2, 1, 1, 0, 0, 1, 0), NONE);
        due("first row", sheet(x, 0, 2, 2, 1, 0, 1, 1), NONE);
        due("last row", sheet(x, 0, 2, 2, 1, 1, 1, 2), NONE);
        due("bytes have no sign", sheet(x, 0, 2, 2, 255, 3, 1, 1), NONE);
        dueChances(x, 0, 2, 3, 1, 2, 3, 0);
        due("in its place", sheet(x, 0, 1, 60, 60), 1);
        dueChances(x, 0, 1, 1, 1);
        due("last SLOT", sheet(x, 5, 2, 60, 59, 1, 0, 60), 60);
        due("CHAINS", x.count(0), 2);
    }

    private static void lazy() {
        BlendBench x = with(2, 3, 1, 2, 3, 0);
        due("lazy", x.lazy(0, 5), 6);
        dueChances(x, 5, 2, 6, 4, 2, 3, 3);
        dueChances(x, 0, 2, 3, 1, 2, 3, 0);
        due("of itself", x.lazy(5, 5), 12);
        dueChances(x, 5, 2, 12, 10, 2, 3, 9);
        due("24", x.lazy(5, 5), 24);
        due("48", x.lazy(5, 5), 48);
        due("96 is above 60", x.lazy(5, 5), NONE);
        due("t stays", x.about(5, 1), 48);
        due("into SLOT 6", x.lazy(0, 6), NONE);
        due("into SLOT -1", x.lazy(0, -1), NONE);
        due("of none", x.lazy(1, 0), NONE);
        due("of SLOT 6", x.lazy(6, 0), NONE);
        due("CHAINS", x.count(0), 2);
        due("Q may stay", sheet(x, 1, 2, 3, 1, 2, 2, 1), 3);
        due("Q may stay", x.lazy(1, 2), 3);
        dueChances(x, 2, 2, 3, 2, 1, 1, 2);
        due("all stay", sheet(x, 3, 2, 60, 60, 0, 0, 60), 1);
        due("all stay", x.lazy(3, 3), 1);
    }

    private static void back() {
        BlendBench x = with(3, 4, 0, 3, 1, 1, 2, 1, 1, 0, 3);
        due("back", x.back(0, 1), 40);
        dueChances(x, 1, 3, 40, 0, 15, 25, 20, 20, 0, 4, 6, 30);
        due("back again, in its place", x.back(1, 1), 4);
        dueChances(x, 1, 3, 4, 0, 3, 1, 1, 2, 1, 1, 0, 3);
        due("into SLOT 6", x.back(0, 6), NONE);
        due("of none", x.back(2, 1), NONE);
        due("not WHOLE", sheet(x, 3, 2, 2, 2, 0, 1, 1), 2);
        due("not WHOLE", x.back(3, 1), NONE);
        due("CHAINS", x.count(0), 3);
        due("t stays", x.about(1, 1), 4);
        sheet(x, 2, 3, 60, 0, 59, 1, 1, 0, 59, 58, 2, 0);
        due("Q above 60", x.back(2, 1), NONE);
        due("t stays", x.about(1, 1), 4);
    }

    private static void melt() {
        BlendBench x = with(4, 4, 1, 1, 1, 1, 2, 0, 2, 0, 0, 2, 0, 2, 1, 1, 1, 1);
        tape(x, 9, 255, 255, 9);
        due("melt", x.melt(0, 1), 2);
        due("tape is empty", x.count(1), 0);
        due("OUT", x.count(2), 4);
        dueOut(x, 0, 1, 1, 0);
        dueChances(x, 1, 2, 2, 1, 1, 1, 1);
        due("like colours that do not lead alike", melt(x, 0, 1, 9, 8, 9, 8), 4);
        dueOut(x, 0, 1, 2, 3);
        tape(x, 7, 7, 7, 7);
        due("one colour", x.melt(0, 1), 1);
        dueChances(x, 1, 1, 1, 1);
        dueOut(x, 0, 0, 0, 0);
        due("three colours", melt(x, 0, 1, 1, 0, 1, 255), 4);
        dueChances(x, 1, 4, 4, 1, 1, 1, 1, 2, 0, 2, 0, 0, 2, 0, 2, 1, 1, 1, 1);
        due("too few", melt(x, 0, 1, 1, 1, 1), NONE);
        due("tape is empty", x.count(1), 0);
        due("too many", melt(x, 0, 1, 1, 1, 1, 1, 1), NONE);
        due("tape is empty", x.count(1), 0);
        due("of none", melt(x, 3, 1), NONE);
        due("into SLOT 6", melt(x, 0, 6, 1, 1, 1, 1), NONE);
        due("tape is empty", x.count(1), 0);
        due("OUT stays", x.count(2), 4);
        due("t stays", x.about(1, 0), 4);
        // Two like halves: 0 and 1 stand for each other, so do 2 and 3, and Q goes down.
        sheet(x, 2, 4, 6, 1, 2, 2, 1, 2, 1, 1, 2, 6, 0, 0, 0, 3, 3, 0, 0);
        due("in its place", melt(x, 2, 2, 5, 5, 3, 3), 2);
        dueChances(x, 2, 2, 2, 1, 1, 2, 0);
        dueOut(x, 0, 0, 1, 1);
        sheet(x, 3, 4, 1, 0, 1, 0, 0, 0, 0, 1, 0, 0, 0, 0, 1, 0, 0, 0, 1);
        due("one split makes the next", melt(x, 3, 4, 5, 5, 5, 6), 4);
    }

    private static void octet() {
        BlendBench x = with(3, 1, 0, 1, 0, 0, 0, 1, 1, 0, 0);
        due("melt", melt(x, 0, 0, 4, 5, 4), 3);
        due("octet(0)", x.octet(0), 0);
        due("octet(2)", x.octet(2), 2);
        throwsNone("octet(3)", () -> x.octet(3));
        throwsNone("octet(-1)", () -> x.octet(-1));
        throwsNone("octet(MAX)", () -> x.octet(Integer.MAX_VALUE));
        sheet(x, 1, 1, 1, 1);
        due("melt", melt(x, 1, 2, 0), 1);
        throwsNone("octet(1) of the new OUT", () -> x.octet(1));
    }

    private static void about() {
        // 0 and 1 in turn, 2 for ever, 3 to all.
        BlendBench x = with(4, 4, 0, 4, 0, 0, 4, 0, 0, 0, 0, 0, 4, 0, 1, 1, 1, 1);
        long[] want = {4, 4, 3, 2, 20, 0, 0, NONE};
        for (int what = 0; what < 8; what++) {
            due("about " + what, x.about(0, what), want[what]);
        }
        due("about -1", x.about(0, -1), NONE);
        due("no CHAIN", x.about(1, 0), NONE);
        due("SLOT -1", x.about(-1, 0), NONE);
        due("SLOT 6", x.about(6, 0), NONE);
        int[][] times = {{60, 8}, {50, 8}, {32, 9}, {31, 10}, {10, 15}, {11, 14}, {5, 20}, {6, 19},
            {1, 20}};
        for (int[] row : times) {
            sheet(x, 1, 2, row[0], 1, row[0] - 1, row[0], 0);
            due("TIMES of " + row[0], x.about(1, 4), row[1]);
        }
        sheet(x, 2, 2, 1, 0, 1, 1, 0);
        due("WHOLE", x.about(2, 5), 1);
        due("two STATES are BOTH WAYS", x.about(2, 6), 1);
        x.lazy(2, 2);
        due("EVEN", x.about(2, 5), 2);
        sheet(x, 3, 3, 3, 0, 2, 1, 1, 0, 2, 2, 1, 0);
        due("shares are alike, round is not BOTH WAYS", x.about(3, 6), 0);
        sheet(x, 3, 3, 4, 2, 2, 0, 1, 2, 1, 0, 2, 2);
        due("a row is BOTH WAYS", x.about(3, 6), 1);
        sheet(x, 3, 2, 1, 1, 0, 0, 1);
        due("not WHOLE is not BOTH WAYS", x.about(3, 6), 0);
    }

    private static void state() {
        // 3 -> 4 -> 3, 0 and 2 lead round with 5 by two and four steps, 1 leads to all once.
        BlendBench x = with(6, 2,
                0, 0, 2, 0, 0, 0,
                1, 0, 0, 1, 0, 0,
                1, 0, 0, 0, 0, 1,
                0, 0, 0, 0, 2, 0,
                0, 0, 0, 2, 0, 0,
                0, 0, 2, 0, 0, 0);
        int[][] want = {{0, 1, 2}, {1, 0, 0}, {0, 1, 2}, {2, 1, 2}, {2, 1, 2}, {0, 1, 2}};
        for (int i = 0; i < 6; i++) {
            for (int what = 0; what < 3; what++) {
                due("state " + i + " what " + what, x.state(0, i, what), want[i][what]);
            }
        }
        due("state 6", x.state(0, 6, 0), NONE);
        due("state -1", x.state(0, -1, 0), NONE);
        due("what 3", x.state(0, 0, 3), NONE);
        due("what -1", x.state(0, 0, -1), NONE);
        due("no CHAIN", x.state(1, 0, 0), NONE);
        sheet(x, 1, 8, 1,
                0, 1, 0, 0, 0, 0, 0, 0, 0, 0, 1, 0, 0, 0, 0, 0, 0, 0, 0, 1, 0, 0, 0, 0,
                0, 0, 0, 0, 1, 0, 0, 0, 0, 0, 0, 0, 0, 1, 0, 0, 0, 0, 0, 0, 0, 0, 1, 0,
                0, 0, 0, 0, 0, 0, 0, 1, 1, 0, 0, 0, 0, 0, 0, 0);
        due("round of eight", x.state(1, 5, 2), 8);
        // Rounds of three and of five through 0.
        sheet(x, 2, 7, 2,
                0, 1, 0, 1, 0, 0, 0, 0, 0, 2, 0, 0, 0, 0, 2, 0, 0, 0, 0, 0, 0,
                0, 0, 0, 0, 2, 0, 0, 0, 0, 0, 0, 0, 2, 0, 0, 0, 0, 0, 0, 0, 2,
                2, 0, 0, 0, 0, 0, 0);
        due("3 and 5", x.state(2, 2, 2), 1);
    }

    private static void chance() {
        BlendBench x = with(2, 4, 3, 1, 2, 2);
        dueFraction("2 steps", x.chance(0, 0, 0, 2, 0), x.chance(0, 0, 0, 2, 1), 11, 16);
        dueFraction("0 steps", x.chance(0, 0, 0, 0, 0), x.chance(0, 0, 0, 0, 1), 1, 1);
        dueFraction("0 steps", x.chance(0, 0, 1, 0, 0), x.chance(0, 0, 1, 0, 1), 0, 1);
        dueFraction("1 step", x.chance(0, 1, 0, 1, 0), x.chance(0, 1, 0, 1, 1), 1, 2);
        dueFraction("3 steps", x.chance(0, 1, 0, 3, 0), x.chance(0, 1, 0, 3, 1), 21, 32);
        sheet(x, 1, 2, 60, 59, 1, 0, 60);
        dueFraction("8 steps", x.chance(1, 0, 0, 8, 0), x.chance(1, 0, 0, 8, 1),
                146830437604321L, 167961600000000L);
        throwsNone("t 9", () -> x.chance(1, 0, 0, 9, 0));
        throwsNone("t 21", () -> x.chance(0, 0, 0, 21, 0));
        throwsNone("t -1", () -> x.chance(0, 0, 0, -1, 0));
        throwsNone("i 2", () -> x.chance(0, 2, 0, 1, 0));
        throwsNone("i -1", () -> x.chance(0, -1, 0, 1, 0));
        throwsNone("j 2", () -> x.chance(0, 0, 2, 1, 0));
        throwsNone("j -1", () -> x.chance(0, 0, -1, 1, 0));
        throwsNone("both -1", () -> x.chance(0, -1, -1, 1, 0));
        throwsNone("what 2", () -> x.chance(0, 0, 0, 1, 2));
        throwsNone("what -1", () -> x.chance(0, 0, 0, 1, -1));
        throwsNone("no CHAIN", () -> x.chance(2, 0, 0, 1, 0));
        throwsNone("SLOT 6", () -> x.chance(6, 0, 0, 1, 0));
    }

    private static void apart() {
        BlendBench x = with(3, 4, 4, 0, 0, 2, 2, 0, 1, 1, 2);
        dueFraction("0, 1", x.apart(0, 0, 1, 1, 0), x.apart(0, 0, 1, 1, 1), 1, 2);
        dueFraction("2, 1", x.apart(0, 2, 1, 1, 0), x.apart(0, 2, 1, 1, 1), 1, 2);
        dueFraction("2, 0", x.apart(0, 2, 0, 1, 0), x.apart(0, 2, 0, 1, 1), 3, 4);
        dueFraction("all", x.apart(0, NONE, NONE, 1, 0), x.apart(0, NONE, NONE, 1, 1), 3, 4);
        dueFraction("all at 0", x.apart(0, -1, -1, 0, 0), x.apart(0, -1, -1, 0, 1), 1, 1);
        dueFraction("same", x.apart(0, 2, 2, 5, 0), x.apart(0, 2, 2, 5, 1), 0, 1);
        throwsNone("0, NONE", () -> x.apart(0, 0, NONE, 1, 0));
        throwsNone("NONE, 0", () -> x.apart(0, NONE, 0, 1, 0));
        throwsNone("-2, -2", () -> x.apart(0, -2, -2, 1, 0));
        throwsNone("0, 3", () -> x.apart(0, 0, 3, 1, 0));
        throwsNone("t 21", () -> x.apart(0, NONE, NONE, 21, 0));
        throwsNone("t -1", () -> x.apart(0, NONE, NONE, -1, 0));
        throwsNone("what 2", () -> x.apart(0, NONE, NONE, 1, 2));
        throwsNone("no CHAIN", () -> x.apart(1, NONE, NONE, 1, 0));
        sheet(x, 1, 1, 1, 1);
        dueFraction("one STATE", x.apart(1, -1, -1, 3, 0), x.apart(1, -1, -1, 3, 1), 0, 1);
    }

    private static void when() {
        // The two are apart by 1 by 4 to the t.
        BlendBench x = with(2, 4, 3, 1, 2, 2);
        due("1 by 1", x.when(0, 1, 1), 0);
        due("1000 by 1000", x.when(0, 1000, 1000), 0);
        due("999 by 1000", x.when(0, 999, 1000), 1);
        due("1 by 4", x.when(0, 1, 4), 1);
        due("249 by 1000", x.when(0, 249, 1000), 2);
        due("1 by 256", x.when(0, 1, 256), 4);
        due("1 by 257", x.when(0, 1, 257), 5);
        due("0 by 1", x.when(0, 0, 1), NONE);
        due("2 by 1", x.when(0, 2, 1), NONE);
        due("-1 by 1", x.when(0, -1, 1), NONE);
        due("0 by 0", x.when(0, 0, 0), NONE);
        due("-2 by -1", x.when(0, -2, -1), NONE);
        due("1 by 1001", x.when(0, 1, 1001), NONE);
        due("no CHAIN", x.when(1, 1, 1), NONE);
        sheet(x, 1, 2, 2, 1, 1, 1, 1);
        due("0 by 1 after one", x.when(1, 0, 1), 1);
        // Half as far with each step, and 58 by 60 with each: the last of the TIMES is too soon.
        sheet(x, 2, 2, 60, 59, 1, 1, 59);
        due("58 by 60, 8 times", x.when(2, 763, 1000), 8);
        due("58 by 60, 9 times", x.when(2, 740, 1000), NONE);
    }

    private static void stay() {
        BlendBench x = with(3, 4, 0, 3, 1, 1, 2, 1, 1, 0, 3);
        dueFraction("0", x.stay(0, 0, 0), x.stay(0, 0, 1), 1, 5);
        dueFraction("1", x.stay(0, 1, 0), x.stay(0, 1, 1), 3, 10);
        dueFraction("2", x.stay(0, 2, 0), x.stay(0, 2, 1), 1, 2);
        sheet(x, 1, 3, 2, 1, 1, 0, 0, 0, 2, 0, 1, 1);
        dueFraction("left for ever", x.stay(1, 0, 0), x.stay(1, 0, 1), 0, 1);
        dueFraction("in the CLOSED HEAP", x.stay(1, 1, 0), x.stay(1, 1, 1), 1, 3);
        sheet(x, 2, 3, 2, 1, 0, 1, 0, 2, 0, 0, 0, 2);
        throwsNone("two CLOSED", () -> x.stay(2, 0, 0));
        throwsNone("i 3", () -> x.stay(0, 3, 0));
        throwsNone("i -1", () -> x.stay(0, -1, 0));
        throwsNone("what 2", () -> x.stay(0, 0, 2));
        throwsNone("what -1", () -> x.stay(0, 0, -1));
        throwsNone("no CHAIN", () -> x.stay(3, 0, 0));
    }

    private static void steps() {
        // 0 for ever; 1, 2, 3 by a half either way; 4 for ever.
        BlendBench x = with(5, 2,
                2, 0, 0, 0, 0, 1, 0, 1, 0, 0, 0, 1, 0, 1, 0, 0, 0, 1, 0, 1, 0, 0, 0, 0, 2);
        dueFraction("2 to ends", x.steps(0, 2, 17, 0), x.steps(0, 2, 17, 1), 4, 1);
        dueFraction("1 to ends", x.steps(0, 1, 17, 0), x.steps(0, 1, 17, 1), 3, 1);
        dueFraction("in it", x.steps(0, 4, 17, 0), x.steps(0, 4, 17, 1), 0, 1);
        dueFraction("in it", x.steps(0, 2, 4, 0), x.steps(0, 2, 4, 1), 0, 1);
        dueFraction("all", x.steps(0, 2, 31, 0), x.steps(0, 2, 31, 1), 0, 1);
        dueFraction("the set bars the way to 0", x.steps(0, 3, 20, 0), x.steps(0, 3, 20, 1), 1, 1);
        throwsNone("may end in 0", () -> x.steps(0, 3, 16, 0));
        throwsNone("is in 0", () -> x.steps(0, 0, 16, 0));
        throwsNone("no set", () -> x.steps(0, 0, 0, 0));
        throwsNone("set of others", () -> x.steps(0, 0, 32, 0));
        throwsNone("set with another", () -> x.steps(0, 0, 33, 0));
        throwsNone("set -1", () -> x.steps(0, 0, -1, 0));
        throwsNone("i 5", () -> x.steps(0, 5, 1, 0));
        throwsNone("i -1", () -> x.steps(0, -1, 1, 0));
        throwsNone("what 2", () -> x.steps(0, 0, 1, 2));
        throwsNone("no CHAIN", () -> x.steps(1, 0, 1, 0));
        sheet(x, 1, 3, 3, 1, 1, 1, 0, 2, 1, 1, 0, 2);
        dueFraction("by a third", x.steps(1, 0, 4, 0), x.steps(1, 0, 4, 1), 3, 1);
        dueFraction("upper by lower", x.steps(1, 0, 2, 0), x.steps(1, 0, 2, 1), 6, 1);
        dueFraction("upper by lower", x.steps(1, 0, 6, 0), x.steps(1, 0, 6, 1), 3, 2);
    }

    private static void ahead() {
        BlendBench x = with(6, 2,
                2, 0, 0, 0, 0, 0, 1, 0, 1, 0, 0, 0, 0, 1, 0, 1, 0, 0, 0, 0, 1, 0, 1, 0,
                0, 0, 0, 0, 2, 0, 0, 0, 1, 0, 0, 1);
        dueFraction("1", x.ahead(0, 1, 16, 1, 0), x.ahead(0, 1, 16, 1, 1), 1, 4);
        dueFraction("3", x.ahead(0, 3, 16, 1, 0), x.ahead(0, 3, 16, 1, 1), 3, 4);
        dueFraction("in it", x.ahead(0, 4, 16, 1, 0), x.ahead(0, 4, 16, 1, 1), 1, 1);
        dueFraction("in the other", x.ahead(0, 0, 16, 1, 0), x.ahead(0, 0, 16, 1, 1), 0, 1);
        dueFraction("barred", x.ahead(0, 1, 8, 4, 0), x.ahead(0, 1, 8, 4, 1), 0, 1);
        dueFraction("never", x.ahead(0, 0, 8, 4, 0), x.ahead(0, 0, 8, 4, 1), 0, 1);
        dueFraction("may come to none", x.ahead(0, 2, 16, 32, 0), x.ahead(0, 2, 16, 32, 1), 1, 2);
        dueFraction("two of them", x.ahead(0, 2, 17, 32, 0), x.ahead(0, 2, 17, 32, 1), 1, 1);
        throwsNone("in common", () -> x.ahead(0, 1, 17, 1, 0));
        throwsNone("no set", () -> x.ahead(0, 1, 0, 1, 0));
        throwsNone("no other", () -> x.ahead(0, 1, 1, 0, 0));
        throwsNone("set 64", () -> x.ahead(0, 1, 64, 1, 0));
        throwsNone("other 64", () -> x.ahead(0, 1, 1, 64, 0));
        throwsNone("set MIN", () -> x.ahead(0, 1, Integer.MIN_VALUE, 1, 0));
        throwsNone("i 6", () -> x.ahead(0, 6, 2, 1, 0));
        throwsNone("i -1", () -> x.ahead(0, -1, 2, 1, 0));
        throwsNone("what 2", () -> x.ahead(0, 0, 2, 1, 2));
        throwsNone("no CHAIN", () -> x.ahead(1, 0, 2, 1, 0));
    }

    private static void narrow() {
        BlendBench x = with(2, 4, 3, 1, 2, 2);
        dueFraction("narrow", x.narrow(0, 0), x.narrow(0, 1), 1, 2);
        // Two pairs, each close within, hang together by 1 and 2.
        sheet(x, 1, 4, 10, 1, 9, 0, 0, 9, 0, 1, 0, 0, 1, 0, 9, 0, 0, 9, 1);
        dueFraction("pairs", x.narrow(1, 0), x.narrow(1, 1), 1, 20);
        sheet(x, 2, 2, 2, 2, 0, 1, 1);
        throwsNone("not WHOLE", () -> x.narrow(2, 0));
        sheet(x, 3, 1, 1, 1);
        throwsNone("one STATE", () -> x.narrow(3, 0));
        throwsNone("what 2", () -> x.narrow(0, 2));
        throwsNone("what -1", () -> x.narrow(0, -1));
        throwsNone("no CHAIN", () -> x.narrow(4, 0));
    }

    private static void cut() {
        BlendBench x = with(2, 4, 3, 1, 2, 2);
        due("only one has a half at most", x.cut(0), 2);
        sheet(x, 1, 4, 10, 1, 9, 0, 0, 9, 0, 1, 0, 0, 1, 0, 9, 0, 0, 9, 1);
        due("either half: least bits", x.cut(1), 3);
        sheet(x, 1, 3, 4, 0, 3, 1, 1, 2, 1, 1, 0, 3);
        due("3 is less than 4", x.cut(1), 3);
        sheet(x, 2, 2, 2, 2, 0, 1, 1);
        due("not WHOLE", x.cut(2), NONE);
        sheet(x, 3, 1, 1, 1);
        due("one STATE", x.cut(3), NONE);
        due("no CHAIN", x.cut(4), NONE);
        due("SLOT -1", x.cut(-1), NONE);
        due("SLOT 6", x.cut(6), NONE);
    }

    private static void count() {
        BlendBench x = with(3, 2, 1, 1, 0, 0, 1, 1, 1, 0, 1);
        due("CHAINS", x.count(0), 1);
        for (int t = 1; t < 6; t++) {
            x.lazy(0, t);
            due("CHAINS", x.count(0), t + 1);
        }
        x.lazy(0, 3);
        due("CHAINS", x.count(0), 6);
        x.feed(0, 0, 0, 0, 0);
        due("bytes", x.count(1), 20);
        x.end(3);
        due("bytes", x.count(1), 3);
        x.melt(0, 5);
        due("bytes", x.count(1), 0);
        due("OUT", x.count(2), 3);
        due("another", x.count(3), NONE);
        due("another", x.count(-1), NONE);
    }

    private static void throwingChangesNothing() {
        BlendBench x = with(2, 4, 3, 1, 2, 2);
        tape(x, 1, 2);
        throwsNone("octet", () -> x.octet(0));
        throwsNone("chance", () -> x.chance(0, 0, 0, 99, 0));
        throwsNone("steps", () -> x.steps(0, 0, 0, 0));
        due("bytes", x.count(1), 2);
        due("CHAINS", x.count(0), 1);
        due("OUT", x.count(2), 0);
        due("the tape is still there", x.melt(0, 0), 2);
        dueChances(x, 0, 2, 4, 3, 1, 2, 2);
    }

    public static void main(String[] args) {
        Runnable[] promises = {PromisesTest::newObject, PromisesTest::feed, PromisesTest::end,
            PromisesTest::sheets, PromisesTest::lazy, PromisesTest::back, PromisesTest::melt,
            PromisesTest::octet, PromisesTest::about, PromisesTest::state, PromisesTest::chance,
            PromisesTest::apart, PromisesTest::when, PromisesTest::stay, PromisesTest::steps,
            PromisesTest::ahead, PromisesTest::narrow, PromisesTest::cut, PromisesTest::count,
            PromisesTest::throwingChangesNothing};
        int promise = 0;
        for (Runnable p : promises) {
            promise++;
            holds("Promise " + promise, p);
        }
        finish();
    }
}
