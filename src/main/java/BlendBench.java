import java.util.NoSuchElementException;

/** Chains of states that lead on by told chances, looked at in exact fractions. */
public final class BlendBench {
    public static final int NONE = -1;

    private static final int SLOTS = 6;
    private static final int WIDTH = 8;
    private static final int TAPE_ROOM = 80;
    private static final int FEED_NUMBERS = 5;
    private static final int GREATEST_Q = 60;
    private static final int GREATEST_TIME = 20;
    private static final int GREATEST_NEARNESS = 1000;
    private static final long GREATEST_POWER = 1_000_000_000_000_000L;
    // Euclid's rounds over two longs stay under a hundred.
    private static final int EUCLID_ROUNDS = 200;

    private final Tape tape;
    private final int[] out;
    private int outLength;
    private final Chain[] slots;
    // New chains are made here and change places with the slot's old one.
    private Chain draft;
    private final Partition partition;
    private final Walk walk;
    private final Hits hits;
    private final Neck neck;
    private final Fraction fraction;

    public BlendBench() {
        tape = new Tape();
        out = new int[WIDTH];
        outLength = 0;
        slots = new Chain[SLOTS];
        for (int s = 0; s < SLOTS; s++) {
            slots[s] = new Chain();
        }
        draft = new Chain();
        partition = new Partition();
        walk = new Walk();
        hits = new Hits();
        neck = new Neck();
        fraction = new Fraction();
    }

    public int feed(int a, int b, int c, int d, int e) {
        if (!tape.hasRoomFor(FEED_NUMBERS)) {
            return NONE;
        }
        tape.append(a);
        tape.append(b);
        tape.append(c);
        tape.append(d);
        tape.append(e);
        return tape.length;
    }

    public boolean end(int n) {
        return tape.shorten(n);
    }

    public int sheet(int s, int n, int q) {
        boolean read = isSlot(s) && draft.readTape(tape, n, q);
        tape.shorten(0);
        return read ? place(s) : NONE;
    }

    public int lazy(int s, int t) {
        Chain chain = chainIn(s);
        if (chain == null || !isSlot(t)) {
            return NONE;
        }
        draft.makeLazyOf(chain);
        return place(t);
    }

    public int back(int s, int t) {
        Chain chain = chainIn(s);
        if (chain == null || !isSlot(t) || !chain.isWhole()) {
            return NONE;
        }
        return draft.makeBackOf(chain, fraction) ? place(t) : NONE;
    }

    public int melt(int s, int t) {
        Chain chain = chainIn(s);
        boolean melts = chain != null && isSlot(t) && tape.length == chain.size;
        if (melts) {
            partition.split(chain, tape);
        }
        tape.shorten(0);
        if (!melts) {
            return NONE;
        }
        draft.makeMeltedOf(chain, partition);
        if (place(t) == NONE) {
            return NONE;
        }
        outLength = partition.tellTo(out);
        return partition.parts;
    }

    public int octet(int k) throws NoSuchElementException {
        if (k < 0 || k >= outLength || k >= WIDTH) {
            throw new NoSuchElementException();
        }
        return out[k];
    }

    public int about(int s, int what) {
        Chain chain = chainIn(s);
        if (chain == null) {
            return NONE;
        }
        switch (what) {
            case 0: return chain.size;
            case 1: return chain.q;
            case 2: return chain.heaps();
            case 3: return chain.closedHeaps();
            case 4: return chain.lastTime();
            case 5: return chain.wholeness();
            case 6: return chain.isBothWays() ? 1 : 0;
            default: return NONE;
        }
    }

    public int state(int s, int i, int what) {
        Chain chain = chainIn(s);
        if (chain == null || !chain.isState(i)) {
            return NONE;
        }
        switch (what) {
            case 0: return chain.heapNumber(i);
            case 1: return chain.isClosed(i) ? 1 : 0;
            case 2: return chain.beat(i);
            default: return NONE;
        }
    }

    public long chance(int s, int i, int j, int t, int what) throws NoSuchElementException {
        Chain chain = neededChain(s, what);
        if (!chain.isState(i) || !chain.isState(j) || !chain.isTime(t)) {
            throw new NoSuchElementException();
        }
        walk.go(chain, 1 << i, t);
        fraction.put(walk.at(i, j), walk.power);
        return fraction.told(what);
    }

    public long apart(int s, int i, int j, int t, int what) throws NoSuchElementException {
        Chain chain = neededChain(s, what);
        boolean ofChain = i == NONE && j == NONE;
        boolean ofStates = chain.isState(i) && chain.isState(j);
        if (!chain.isTime(t) || !(ofChain || ofStates)) {
            throw new NoSuchElementException();
        }
        walk.go(chain, ofChain ? chain.allStates() : 1 << i | 1 << j, t);
        fraction.put(ofChain ? walk.widestGap(chain) : walk.gap(chain, i, j), 2 * walk.power);
        return fraction.told(what);
    }

    public int when(int s, int p, int q) {
        Chain chain = chainIn(s);
        if (chain == null || p < 0 || p > q || q < 1 || q > GREATEST_NEARNESS) {
            return NONE;
        }
        return walk.firstNear(chain, p, q);
    }

    public long stay(int s, int i, int what) throws NoSuchElementException {
        Chain chain = neededChain(s, what);
        if (!chain.isState(i) || chain.total == 0) {
            throw new NoSuchElementException();
        }
        fraction.put(chain.shares[i], chain.total);
        return fraction.told(what);
    }

    public long steps(int s, int i, int set, int what) throws NoSuchElementException {
        Chain chain = neededChain(s, what);
        if (!chain.isState(i) || !chain.isSet(set) || !hits.findSteps(chain, i, set, fraction)) {
            throw new NoSuchElementException();
        }
        return fraction.told(what);
    }

    public long ahead(int s, int i, int set, int other, int what) throws NoSuchElementException {
        Chain chain = neededChain(s, what);
        if (!chain.isState(i) || !chain.isSet(set) || !chain.isSet(other) || (set & other) != 0) {
            throw new NoSuchElementException();
        }
        hits.findAhead(chain, i, set, other, fraction);
        return fraction.told(what);
    }

    public long narrow(int s, int what) throws NoSuchElementException {
        Chain chain = neededChain(s, what);
        if (!neck.find(chain)) {
            throw new NoSuchElementException();
        }
        fraction.put(neck.flow, chain.q * neck.share);
        return fraction.told(what);
    }

    public int cut(int s) {
        Chain chain = chainIn(s);
        return chain != null && neck.find(chain) ? neck.set : NONE;
    }

    public int count(int what) {
        switch (what) {
            case 0: return filledSlots();
            case 1: return tape.length;
            case 2: return outLength;
            default: return NONE;
        }
    }

    private int filledSlots() {
        int filled = 0;
        for (int s = 0; s < SLOTS; s++) {
            if (slots[s].size > 0) {
                filled++;
            }
        }
        return filled;
    }

    private static boolean isSlot(int s) {
        return s >= 0 && s < SLOTS;
    }

    private Chain chainIn(int s) {
        return isSlot(s) && slots[s].size > 0 ? slots[s] : null;
    }

    private Chain neededChain(int s, int what) {
        Chain chain = chainIn(s);
        if (chain == null || what < 0 || what > 1) {
            throw new NoSuchElementException();
        }
        return chain;
    }

    private int place(int t) {
        if (!isSlot(t) || !draft.settle()) {
            return NONE;
        }
        hits.minors.fillShares(draft);
        Chain old = slots[t];
        slots[t] = draft;
        draft = old;
        return slots[t].q;
    }

    private static boolean has(int set, int i) {
        return (set >> i & 1) != 0;
    }

    private static long commonDivisor(long a, long b) {
        long x = a;
        long y = b;
        for (int k = 0; k < EUCLID_ROUNDS && y != 0; k++) {
            long rest = x % y;
            x = y;
            y = rest;
        }
        return x;
    }

    /** Whether a by b is below c by d; by quotients, since the products across outgrow a long. */
    private static boolean isBelow(long a, long b, long c, long d) {
        long up = a;
        long low = b;
        long otherUp = c;
        long otherLow = d;
        for (int k = 0; k < EUCLID_ROUNDS && low != 0 && otherLow != 0; k++) {
            long whole = up / low;
            long otherWhole = otherUp / otherLow;
            if (whole != otherWhole) {
                return whole < otherWhole;
            }
            // What is left is below, if its inverse is above: the two change places.
            long rest = up % low;
            long otherRest = otherUp % otherLow;
            up = otherLow;
            otherUp = low;
            low = otherRest;
            otherLow = rest;
        }
        return otherLow == 0 && low != 0;
    }

    private static final class Fraction {
        private long up;
        private long low;

        Fraction() {
            up = 0;
            low = 1;
        }

        void put(long upper, long lower) {
            long divisor = commonDivisor(upper, lower);
            if (divisor == 0) {
                return;
            }
            up = upper / divisor;
            low = lower / divisor;
        }

        long told(int what) {
            return what == 0 ? up : low;
        }
    }

    private static final class Tape {
        private static final int NUMBER_BYTES = 4;
        private final int[] bytes;
        private int length;

        Tape() {
            bytes = new int[TAPE_ROOM];
            length = 0;
        }

        boolean hasRoomFor(int numbers) {
            return length + numbers * NUMBER_BYTES <= TAPE_ROOM;
        }

        void append(int number) {
            for (int shift = 24; shift >= 0 && length < TAPE_ROOM; shift -= 8) {
                bytes[length] = number >>> shift & 255;
                length++;
            }
        }

        boolean shorten(int n) {
            if (n < 0 || n > length) {
                return false;
            }
            length = n;
            return true;
        }

        int at(int k) {
            return k >= 0 && k < length ? bytes[k] : 0;
        }
    }

    /** A chain, and what is known of it once it is settled; of size 0 it is none. */
    private static final class Chain {
        private int size;
        private int q;
        private final int[] cells;
        private final int[] nexts;
        private final int[] leads;
        private final long[] shares;
        // The shares' sum; 0 where the chain has no STAY.
        private long total;

        Chain() {
            size = 0;
            q = 1;
            cells = new int[WIDTH * WIDTH];
            nexts = new int[WIDTH];
            leads = new int[WIDTH];
            shares = new long[WIDTH];
            total = 0;
        }

        private void begin(int n, int over) {
            size = n >= 1 && n <= WIDTH ? n : 0;
            q = over;
            for (int k = 0; k < WIDTH * WIDTH; k++) {
                cells[k] = 0;
            }
        }

        boolean isState(int i) {
            return i >= 0 && i < size;
        }

        boolean isSet(int set) {
            return set >= 1 && set <= allStates();
        }

        int allStates() {
            return (1 << size) - 1;
        }

        int at(int i, int j) {
            return isState(i) && isState(j) ? cells[i * WIDTH + j] : 0;
        }

        private void raise(int i, int j, int by) {
            if (isState(i) && isState(j)) {
                cells[i * WIDTH + j] += by;
            }
        }

        /** All that goes from i into a set, over Q. */
        int into(int i, int set) {
            int sum = 0;
            boolean known = isState(i);
            for (int j = 0; j < size; j++) {
                if (known && has(set, j)) {
                    sum += cells[i * WIDTH + j];
                }
            }
            return sum;
        }

        boolean readTape(Tape tape, int n, int over) {
            if (n < 1 || n > WIDTH || over < 1 || over > GREATEST_Q || tape.length != n * n) {
                return false;
            }
            begin(n, over);
            for (int i = 0; i < n; i++) {
                for (int j = 0; j < n; j++) {
                    raise(i, j, tape.at(i * n + j));
                }
                if (into(i, allStates()) != over) {
                    return false;
                }
            }
            return true;
        }

        void makeLazyOf(Chain chain) {
            begin(chain.size, 2 * chain.q);
            for (int i = 0; i < size; i++) {
                for (int j = 0; j < size; j++) {
                    raise(i, j, chain.at(i, j));
                }
                raise(i, i, chain.q);
            }
        }

        boolean makeBackOf(Chain chain, Fraction fraction) {
            int over = chain.backQ(fraction);
            if (over > GREATEST_Q) {
                return false;
            }
            begin(chain.size, over);
            for (int i = 0; i < size; i++) {
                for (int j = 0; j < size; j++) {
                    chain.putBackChance(i, j, fraction);
                    if (fraction.low > 0) {
                        raise(i, j, (int) (fraction.up * (over / fraction.low)));
                    }
                }
            }
            return true;
        }

        /** The least Q of the chain seen backward; any number above 60, if that is above 60. */
        private int backQ(Fraction fraction) {
            long least = 1;
            for (int i = 0; i < size; i++) {
                for (int j = 0; j < size; j++) {
                    putBackChance(i, j, fraction);
                    long divisor = commonDivisor(least, fraction.low);
                    if (fraction.low > GREATEST_Q || divisor == 0) {
                        return GREATEST_Q + 1;
                    }
                    least = least / divisor * fraction.low;
                    if (least > GREATEST_Q) {
                        return GREATEST_Q + 1;
                    }
                }
            }
            return (int) least;
        }

        private void putBackChance(int i, int j, Fraction fraction) {
            if (isState(i) && isState(j)) {
                fraction.put(shares[j] * at(j, i), shares[i] * q);
            }
        }

        void makeMeltedOf(Chain chain, Partition partition) {
            begin(partition.parts, chain.q);
            for (int a = 0; a < size; a++) {
                int first = partition.firstOf(a);
                for (int j = 0; j < chain.size; j++) {
                    raise(a, partition.partOf(j), chain.at(first, j));
                }
            }
        }

        /** Brings Q to its least and looks who leads where; false, if Q stays above 60. */
        boolean settle() {
            int divisor = q;
            for (int k = 0; k < WIDTH * WIDTH; k++) {
                divisor = (int) commonDivisor(divisor, cells[k]);
            }
            if (divisor <= 0 || q / divisor > GREATEST_Q) {
                return false;
            }
            q /= divisor;
            for (int k = 0; k < WIDTH * WIDTH; k++) {
                cells[k] /= divisor;
            }
            traceLeads();
            return true;
        }

        private void traceLeads() {
            for (int i = 0; i < size; i++) {
                nexts[i] = 0;
                for (int j = 0; j < size; j++) {
                    nexts[i] |= at(i, j) > 0 ? 1 << j : 0;
                }
                leads[i] = nexts[i] | 1 << i;
            }
            for (int k = 0; k < size; k++) {
                for (int i = 0; i < size; i++) {
                    leads[i] |= has(leads[i], k) ? leads[k] : 0;
                }
            }
        }

        /** The states that one step may reach from some of a set. */
        int nextsOf(int set) {
            int reached = 0;
            for (int i = 0; i < size; i++) {
                reached |= has(set, i) ? nexts[i] : 0;
            }
            return reached;
        }

        private int heapOf(int i) {
            int heap = 0;
            for (int j = 0; j < size; j++) {
                if (isState(i) && has(leads[i], j) && has(leads[j], i)) {
                    heap |= 1 << j;
                }
            }
            return heap;
        }

        private boolean isLeastOfHeap(int i) {
            return (heapOf(i) & (1 << i) - 1) == 0;
        }

        boolean isClosed(int i) {
            return isState(i) && leads[i] == heapOf(i);
        }

        int heapNumber(int i) {
            int heap = heapOf(i);
            int number = 0;
            for (int j = 0; j < size && !has(heap, j); j++) {
                number += isLeastOfHeap(j) ? 1 : 0;
            }
            return number;
        }

        int heaps() {
            int found = 0;
            for (int i = 0; i < size; i++) {
                found += isLeastOfHeap(i) ? 1 : 0;
            }
            return found;
        }

        int closedHeaps() {
            int found = 0;
            for (int i = 0; i < size; i++) {
                found += isLeastOfHeap(i) && isClosed(i) ? 1 : 0;
            }
            return found;
        }

        /** The states of all closed heaps. */
        int closedStates() {
            int closed = 0;
            for (int i = 0; i < size; i++) {
                closed |= isClosed(i) ? 1 << i : 0;
            }
            return closed;
        }

        /** Ways to a circle, once round it and back are shorter than three times the states. */
        int beat(int i) {
            int reached = 1 << i;
            long divisor = 0;
            for (int length = 1; length <= 3 * size; length++) {
                reached = nextsOf(reached);
                if (has(reached, i)) {
                    divisor = commonDivisor(divisor, length);
                }
            }
            return (int) divisor;
        }

        boolean isWhole() {
            return heaps() == 1;
        }

        int wholeness() {
            if (!isWhole()) {
                return 0;
            }
            return beat(0) == 1 ? 2 : 1;
        }

        boolean isBothWays() {
            boolean same = isWhole();
            for (int i = 0; i < size; i++) {
                for (int j = 0; j < i; j++) {
                    same = same && shares[i] * at(i, j) == shares[j] * at(j, i);
                }
            }
            return same;
        }

        int lastTime() {
            long power = q;
            int t = 0;
            while (t < GREATEST_TIME && power <= GREATEST_POWER) {
                power *= q;
                t++;
            }
            return t;
        }

        boolean isTime(int t) {
            return t >= 0 && t <= lastTime();
        }

        long shareOf(int set) {
            long sum = 0;
            for (int i = 0; i < size; i++) {
                sum += has(set, i) ? shares[i] : 0;
            }
            return sum;
        }

        /** What leaves a set in a step, Q times the sum of shares times chances. */
        long flowOutOf(int set) {
            long flow = 0;
            for (int i = 0; i < size; i++) {
                if (has(set, i)) {
                    flow += shares[i] * into(i, allStates() & ~set);
                }
            }
            return flow;
        }
    }

    /** The fewest parts, found by splitting the colours till nothing splits. */
    private static final class Partition {
        private final int[] part;
        private final int[] finer;
        private int size;
        private int parts;

        Partition() {
            part = new int[WIDTH];
            finer = new int[WIDTH];
            size = 0;
            parts = 0;
        }

        void split(Chain chain, Tape colours) {
            size = chain.size;
            for (int i = 0; i < size; i++) {
                part[i] = colours.at(i);
            }
            parts = 0;
            int before = NONE;
            for (int round = 0; round <= WIDTH && parts != before; round++) {
                before = parts;
                splitOnce(chain);
            }
        }

        private void splitOnce(Chain chain) {
            parts = 0;
            for (int i = 0; i < size; i++) {
                int like = firstLike(chain, i);
                if (like < i) {
                    finer[i] = finer[like];
                } else {
                    finer[i] = parts;
                    parts++;
                }
            }
            System.arraycopy(finer, 0, part, 0, size);
        }

        private int firstLike(Chain chain, int i) {
            for (int j = 0; j < i; j++) {
                if (areLike(chain, i, j)) {
                    return j;
                }
            }
            return i;
        }

        private boolean areLike(Chain chain, int i, int j) {
            boolean like = part[i] == part[j];
            for (int k = 0; k < size && like; k++) {
                int members = membersWith(k);
                like = chain.into(i, members) == chain.into(j, members);
            }
            return like;
        }

        private int membersWith(int k) {
            int members = 0;
            for (int j = 0; j < size; j++) {
                members |= part[j] == part[k] ? 1 << j : 0;
            }
            return members;
        }

        int partOf(int i) {
            return i >= 0 && i < size ? part[i] : NONE;
        }

        int firstOf(int number) {
            for (int i = 0; i < size; i++) {
                if (part[i] == number) {
                    return i;
                }
            }
            return NONE;
        }

        int tellTo(int[] row) {
            for (int i = 0; i < size && i < row.length; i++) {
                row[i] = part[i];
            }
            return size;
        }
    }

    /** Chances after some steps, from each state, over Q multiplied by itself so often. */
    private static final class Walk {
        private final long[] rows;
        private final long[] spare;
        private long power;

        Walk() {
            rows = new long[WIDTH * WIDTH];
            spare = new long[WIDTH];
            power = 1;
        }

        private void begin() {
            for (int k = 0; k < WIDTH * WIDTH; k++) {
                rows[k] = k % (WIDTH + 1) == 0 ? 1 : 0;
            }
            power = 1;
        }

        /** Only the rows of the asked beginnings go on; the others stay behind. */
        void go(Chain chain, int beginnings, int t) {
            begin();
            for (int k = 0; k < t && k < GREATEST_TIME; k++) {
                goOnce(chain, beginnings);
            }
        }

        private void goOnce(Chain chain, int beginnings) {
            for (int i = 0; i < chain.size; i++) {
                if (has(beginnings, i)) {
                    moveRow(chain, i);
                }
            }
            power *= chain.q;
        }

        private void moveRow(Chain chain, int i) {
            int from = i * WIDTH;
            for (int k = 0; k < chain.size; k++) {
                spare[k] = rows[from + k];
                rows[from + k] = 0;
            }
            for (int k = 0; k < chain.size; k++) {
                for (int j = 0; j < chain.size && spare[k] != 0; j++) {
                    rows[from + j] += spare[k] * chain.cells[k * WIDTH + j];
                }
            }
        }

        long at(int i, int j) {
            return i >= 0 && i < WIDTH && j >= 0 && j < WIDTH ? rows[i * WIDTH + j] : 0;
        }

        /** Twice how far two beginnings are apart. */
        long gap(Chain chain, int i, int j) {
            long sum = 0;
            if (!chain.isState(i) || !chain.isState(j)) {
                return sum;
            }
            for (int k = 0; k < chain.size; k++) {
                sum += Math.abs(rows[i * WIDTH + k] - rows[j * WIDTH + k]);
            }
            return sum;
        }

        long widestGap(Chain chain) {
            long widest = 0;
            for (int i = 0; i < chain.size; i++) {
                for (int j = 0; j < i; j++) {
                    widest = Math.max(widest, gap(chain, i, j));
                }
            }
            return widest;
        }

        int firstNear(Chain chain, int p, int q) {
            int last = chain.lastTime();
            begin();
            for (int t = 0; t <= last; t++) {
                if (widestGap(chain) * q <= 2 * power * p) {
                    return t;
                }
                goOnce(chain, chain.allStates());
            }
            return NONE;
        }
    }

    /**
     * Determinants of Q on the diagonal less the chances, for some of the states.
     * Without a division they may wrap around on the way: what comes out is below 2^63.
     */
    private static final class Minors {
        private final long[] cells;
        private final long[] ofColumns;
        private int size;

        Minors() {
            cells = new long[WIDTH * WIDTH];
            ofColumns = new long[1 << WIDTH];
            size = 0;
        }

        void load(Chain chain, int set) {
            size = 0;
            for (int i = 0; i < chain.size; i++) {
                if (has(set, i)) {
                    loadRow(chain, set, i);
                    size++;
                }
            }
        }

        private void loadRow(Chain chain, int set, int i) {
            int at = size * WIDTH;
            for (int j = 0; j < chain.size; j++) {
                if (has(set, j)) {
                    cells[at] = (i == j ? chain.q : 0) - chain.at(i, j);
                    at++;
                }
            }
        }

        void replaceColumn(int column, long[] values) {
            for (int row = 0; row < size && row < values.length; row++) {
                if (column >= 0 && column < size) {
                    cells[row * WIDTH + column] = values[row];
                }
            }
        }

        /** Row by row, for each set of as many columns: the last row's cells times what is left. */
        long determinant() {
            ofColumns[0] = 1;
            int all = (1 << size) - 1;
            for (int set = 1; set <= all; set++) {
                ofColumns[set] = byLastRow(Integer.bitCount(set) - 1, set);
            }
            return ofColumns[all];
        }

        private long byLastRow(int row, int set) {
            long sum = 0;
            boolean adds = true;
            for (int column = size - 1; column >= 0; column--) {
                if (has(set, column)) {
                    long product = cells[row * WIDTH + column] * ofColumns[set ^ 1 << column];
                    sum += adds ? product : -product;
                    adds = !adds;
                }
            }
            return sum;
        }

        /** A state's share goes as the minor without it, in the only closed heap. */
        void fillShares(Chain chain) {
            boolean single = chain.closedHeaps() == 1;
            int closed = chain.closedStates();
            chain.total = 0;
            for (int i = 0; i < chain.size; i++) {
                chain.shares[i] = 0;
                if (single && has(closed, i)) {
                    load(chain, closed & ~(1 << i));
                    chain.shares[i] = determinant();
                }
                chain.total += chain.shares[i];
            }
        }
    }

    /** How long it takes to come somewhere, and where first. */
    private static final class Hits {
        private final Minors minors;
        private final long[] right;

        Hits() {
            minors = new Minors();
            right = new long[WIDTH];
        }

        boolean findSteps(Chain chain, int i, int set, Fraction fraction) {
            if (has(set, i)) {
                fraction.put(0, 1);
                return true;
            }
            int inner = reachedOutside(chain, i, set);
            if (!allLeadInto(chain, inner, set)) {
                return false;
            }
            for (int row = 0; row < WIDTH; row++) {
                right[row] = chain.q;
            }
            solve(chain, inner, i, fraction);
            return true;
        }

        private static int reachedOutside(Chain chain, int i, int set) {
            int reached = 1 << i;
            for (int round = 0; round < WIDTH; round++) {
                reached |= chain.nextsOf(reached) & ~set;
            }
            return reached;
        }

        private static boolean allLeadInto(Chain chain, int inner, int set) {
            for (int j = 0; j < chain.size; j++) {
                if (has(inner, j) && (chain.leads[j] & set) == 0) {
                    return false;
                }
            }
            return true;
        }

        void findAhead(Chain chain, int i, int set, int other, Fraction fraction) {
            int inner = leadingInto(chain, set, other);
            if (!has(inner, i)) {
                fraction.put(has(set, i) ? 1 : 0, 1);
                return;
            }
            int row = 0;
            for (int j = 0; j < chain.size; j++) {
                if (has(inner, j)) {
                    right[row] = chain.into(j, set);
                    row++;
                }
            }
            solve(chain, inner, i, fraction);
        }

        /** States outside of both sets; from the others nothing comes in, and no row is needed. */
        private static int leadingInto(Chain chain, int set, int other) {
            int inner = 0;
            for (int round = 0; round < WIDTH; round++) {
                for (int j = 0; j < chain.size; j++) {
                    if (!has(set | other, j) && (chain.nexts[j] & (set | inner)) != 0) {
                        inner |= 1 << j;
                    }
                }
            }
            return inner;
        }

        private void solve(Chain chain, int inner, int i, Fraction fraction) {
            minors.load(chain, inner);
            long low = minors.determinant();
            minors.replaceColumn(Integer.bitCount(inner & (1 << i) - 1), right);
            fraction.put(minors.determinant(), low);
        }
    }

    /** The narrowest way out of a set with at most half of all shares. */
    private static final class Neck {
        private int set;
        private long flow;
        private long share;

        Neck() {
            set = 0;
            flow = 0;
            share = 1;
        }

        boolean find(Chain chain) {
            set = 0;
            if (chain.size < 2 || !chain.isWhole()) {
                return false;
            }
            for (int tried = 1; tried < chain.allStates(); tried++) {
                weigh(chain, tried);
            }
            return set != 0;
        }

        private void weigh(Chain chain, int tried) {
            long held = chain.shareOf(tried);
            if (held <= 0 || held > chain.total - held) {
                return;
            }
            long leaving = chain.flowOutOf(tried);
            if (set == 0 || isBelow(leaving, held, flow, share)) {
                set = tried;
                flow = leaving;
                share = held;
            }
        }
    }
}
