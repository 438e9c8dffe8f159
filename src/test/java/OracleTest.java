import java.math.BigInteger;
import java.util.ArrayList;
import java.util.Arrays;
import java.util.List;
import java.util.NoSuchElementException;

/** Long runs of calls, each answered a second time by a plain solution over BigInteger fractions. */
public final class OracleTest {
    private static final int RUNS = 400;
    private static final int CALLS = 500;
    private static final long THROWN = Long.MIN_VALUE;
    private static int wrong = 0;
    private static long seed = 20261116L;

    private static int pick(int below) {
        seed = seed * 6364136223846793005L + 1442695040888963407L;
        return (int) ((seed >>> 33) % below);
    }

    record Fraction(BigInteger up, BigInteger low) {
        static final Fraction ZERO = of(0, 1);
        static final Fraction ONE = of(1, 1);

        static Fraction of(long up, long low) {
            return of(BigInteger.valueOf(up), BigInteger.valueOf(low));
        }

        static Fraction of(BigInteger up, BigInteger low) {
            BigInteger d = up.gcd(low);
            d = low.signum() < 0 ? d.negate() : d;
            return new Fraction(up.divide(d), low.divide(d));
        }

        Fraction plus(Fraction f) {
            return of(up.multiply(f.low).add(f.up.multiply(low)), low.multiply(f.low));
        }

        Fraction minus(Fraction f) {
            return plus(new Fraction(f.up.negate(), f.low));
        }

        Fraction times(Fraction f) {
            return of(up.multiply(f.up), low.multiply(f.low));
        }

        Fraction by(Fraction f) {
            return of(up.multiply(f.low), low.multiply(f.up));
        }

        Fraction plain() {
            return new Fraction(up.abs(), low);
        }

        int against(Fraction f) {
            return up.multiply(f.low).compareTo(f.up.multiply(low));
        }

        boolean isZero() {
            return up.signum() == 0;
        }

        long told(int what) {
            return (what == 0 ? up : low).longValueExact();
        }
    }

    /** A chain as the document's terms have it. */
    static final class Model {
        final int n;
        final Fraction[][] p;
        private boolean[][] leads;
        private Fraction[] shares;

        Model(Fraction[][] p) {
            this.p = p;
            n = p.length;
        }

        int q() {
            BigInteger q = BigInteger.ONE;
            for (Fraction[] row : p) {
                for (Fraction f : row) {
                    q = q.divide(q.gcd(f.low)).multiply(f.low);
                }
            }
            return q.bitLength() > 30 ? Integer.MAX_VALUE : q.intValue();
        }

        boolean leads(int i, int j) {
            if (leads == null) {
                leads = new boolean[n][];
                for (int k = 0; k < n; k++) {
                    leads[k] = reach(k, 0);
                }
            }
            return leads[i][j];
        }

        /** What i reaches without coming into a set. */
        boolean[] reach(int i, int set) {
            boolean[] seen = new boolean[n];
            List<Integer> open = new ArrayList<>(List.of(i));
            seen[i] = true;
            while (!open.isEmpty()) {
                int k = open.remove(open.size() - 1);
                for (int j = 0; j < n; j++) {
                    if (!seen[j] && (set >> j & 1) == 0 && !p[k][j].isZero()) {
                        seen[j] = true;
                        open.add(j);
                    }
                }
            }
            return seen;
        }

        List<List<Integer>> heaps() {
            List<List<Integer>> heaps = new ArrayList<>();
            for (int i = 0; i < n; i++) {
                List<Integer> home = null;
                for (List<Integer> heap : heaps) {
                    if (leads(i, heap.get(0)) && leads(heap.get(0), i)) {
                        home = heap;
                    }
                }
                if (home == null) {
                    home = new ArrayList<>();
                    heaps.add(home);
                }
                home.add(i);
            }
            return heaps;
        }

        boolean closed(List<Integer> heap) {
            for (int j = 0; j < n; j++) {
                if (leads(heap.get(0), j) && !heap.contains(j)) {
                    return false;
                }
            }
            return true;
        }

        int closedHeaps() {
            return (int) heaps().stream().filter(this::closed).count();
        }

        int heapOf(int i) {
            List<List<Integer>> heaps = heaps();
            for (int k = 0; k < heaps.size(); k++) {
                if (heaps.get(k).contains(i)) {
                    return k;
                }
            }
            throw new IllegalStateException();
        }

        int beat(int i) {
            boolean[] now = new boolean[n];
            now[i] = true;
            int beat = 0;
            for (int t = 1; t <= 100; t++) {
                boolean[] next = new boolean[n];
                for (int a = 0; a < n; a++) {
                    for (int b = 0; b < n; b++) {
                        next[b] |= now[a] && !p[a][b].isZero();
                    }
                }
                now = next;
                if (now[i]) {
                    beat = BigInteger.valueOf(beat).gcd(BigInteger.valueOf(t)).intValue();
                }
            }
            return beat;
        }

        boolean whole() {
            return heaps().size() == 1;
        }

        int lastTime() {
            BigInteger most = BigInteger.TEN.pow(15);
            int t = 0;
            while (t < 20 && BigInteger.valueOf(q()).pow(t + 1).compareTo(most) <= 0) {
                t++;
            }
            return t;
        }

        Fraction[][] power(int t) {
            Fraction[][] now = new Fraction[n][n];
            for (int i = 0; i < n; i++) {
                Arrays.fill(now[i], Fraction.ZERO);
                now[i][i] = Fraction.ONE;
            }
            for (int k = 0; k < t; k++) {
                now = product(now, p);
            }
            return now;
        }

        static Fraction[][] product(Fraction[][] a, Fraction[][] b) {
            int n = a.length;
            Fraction[][] c = new Fraction[n][n];
            for (int i = 0; i < n; i++) {
                for (int j = 0; j < n; j++) {
                    c[i][j] = Fraction.ZERO;
                    for (int k = 0; k < n; k++) {
                        c[i][j] = c[i][j].plus(a[i][k].times(b[k][j]));
                    }
                }
            }
            return c;
        }

        static Fraction gap(Fraction[] a, Fraction[] b) {
            Fraction sum = Fraction.ZERO;
            for (int j = 0; j < a.length; j++) {
                sum = sum.plus(a[j].minus(b[j]).plain());
            }
            return sum.by(Fraction.of(2, 1));
        }

        static Fraction widest(Fraction[][] rows) {
            Fraction widest = Fraction.ZERO;
            for (Fraction[] a : rows) {
                for (Fraction[] b : rows) {
                    Fraction gap = gap(a, b);
                    widest = gap.against(widest) > 0 ? gap : widest;
                }
            }
            return widest;
        }

        int when(Fraction near) {
            Fraction[][] rows = power(0);
            for (int t = 0; t <= lastTime(); t++) {
                if (widest(rows).against(near) <= 0) {
                    return t;
                }
                rows = product(rows, p);
            }
            return -1;
        }

        /** The last column is the right side. */
        static Fraction[] solve(Fraction[][] m) {
            int n = m.length;
            for (int c = 0; c < n; c++) {
                int pivot = c;
                while (m[pivot][c].isZero()) {
                    pivot++;
                }
                Fraction[] row = m[pivot];
                m[pivot] = m[c];
                m[c] = row;
                for (int r = 0; r < n; r++) {
                    if (r != c && !m[r][c].isZero()) {
                        Fraction by = m[r][c].by(row[c]);
                        for (int k = c; k <= n; k++) {
                            m[r][k] = m[r][k].minus(by.times(row[k]));
                        }
                    }
                }
            }
            Fraction[] x = new Fraction[n];
            for (int r = 0; r < n; r++) {
                x[r] = m[r][n].by(m[r][r]);
            }
            return x;
        }

        /** Null with more closed heaps than one. */
        Fraction[] stay() {
            if (shares != null || closedHeaps() != 1) {
                return shares;
            }
            Fraction[][] m = new Fraction[n][n + 1];
            for (int r = 0; r < n; r++) {
                for (int k = 0; k < n; k++) {
                    m[r][k] = r == k ? p[k][r].minus(Fraction.ONE) : p[k][r];
                }
                m[r][n] = Fraction.ZERO;
            }
            // The rows together are 0: one of them may go for the sum of the shares.
            Arrays.fill(m[n - 1], Fraction.ONE);
            shares = solve(m);
            return shares;
        }

        boolean bothWays() {
            if (!whole()) {
                return false;
            }
            Fraction[] w = stay();
            for (int i = 0; i < n; i++) {
                for (int j = 0; j < n; j++) {
                    if (w[i].times(p[i][j]).against(w[j].times(p[j][i])) != 0) {
                        return false;
                    }
                }
            }
            return true;
        }

        Fraction steps(int i, int set) {
            if ((set >> i & 1) != 0) {
                return Fraction.ZERO;
            }
            boolean[] inner = reach(i, set);
            for (int j = 0; j < n; j++) {
                boolean comes = false;
                for (int k = 0; k < n; k++) {
                    comes |= (set >> k & 1) != 0 && leads(j, k);
                }
                if (inner[j] && !comes) {
                    return null;
                }
            }
            Fraction[][] m = new Fraction[n][n + 1];
            for (int r = 0; r < n; r++) {
                for (int k = 0; k < n; k++) {
                    Fraction one = r == k ? Fraction.ONE : Fraction.ZERO;
                    m[r][k] = inner[r] && inner[k] ? one.minus(p[r][k]) : one;
                }
                m[r][n] = inner[r] ? Fraction.ONE : Fraction.ZERO;
            }
            return solve(m)[i];
        }

        Fraction ahead(int i, int set, int other) {
            Fraction[][] m = new Fraction[n][n + 1];
            for (int r = 0; r < n; r++) {
                boolean in = (set >> r & 1) != 0;
                boolean free = !in && (other >> r & 1) == 0 && comesInto(r, set, other);
                for (int k = 0; k < n; k++) {
                    Fraction one = r == k ? Fraction.ONE : Fraction.ZERO;
                    m[r][k] = free ? one.minus(p[r][k]) : one;
                }
                m[r][n] = in ? Fraction.ONE : Fraction.ZERO;
            }
            return solve(m)[i];
        }

        private boolean comesInto(int r, int set, int other) {
            boolean[] seen = reach(r, other);
            for (int k = 0; k < n; k++) {
                if (seen[k] && (set >> k & 1) != 0) {
                    return true;
                }
            }
            return false;
        }

        /** Answers the fraction; the set goes into cut[0]. */
        Fraction narrow(int[] cut) {
            cut[0] = -1;
            if (n < 2 || !whole()) {
                return null;
            }
            Fraction best = null;
            Fraction[] w = stay();
            for (int set = 1; set < 1 << n; set++) {
                Fraction share = Fraction.ZERO;
                Fraction out = Fraction.ZERO;
                for (int i = 0; i < n; i++) {
                    if ((set >> i & 1) != 0) {
                        share = share.plus(w[i]);
                        for (int j = 0; j < n; j++) {
                            out = (set >> j & 1) == 0 ? out.plus(w[i].times(p[i][j])) : out;
                        }
                    }
                }
                if (share.against(Fraction.of(1, 2)) <= 0
                        && (best == null || out.by(share).against(best) < 0)) {
                    best = out.by(share);
                    cut[0] = set;
                }
            }
            return best;
        }

        Model lazy() {
            Fraction[][] c = new Fraction[n][n];
            Fraction half = Fraction.of(1, 2);
            for (int i = 0; i < n; i++) {
                for (int j = 0; j < n; j++) {
                    c[i][j] = p[i][j].times(half).plus(i == j ? half : Fraction.ZERO);
                }
            }
            return new Model(c);
        }

        Model back() {
            Fraction[][] c = new Fraction[n][n];
            Fraction[] w = stay();
            for (int i = 0; i < n; i++) {
                for (int j = 0; j < n; j++) {
                    c[i][j] = w[j].times(p[j][i]).by(w[i]);
                }
            }
            return new Model(c);
        }

        /** Of all ways to part the states, the one with the fewest parts that fits. */
        int[] parts(List<Integer> colours) {
            int[][] best = {null};
            tryParts(new int[n], 0, 0, colours, best);
            return best[0];
        }

        private void tryParts(int[] part, int at, int used, List<Integer> colours, int[][] best) {
            if (best[0] != null && used > Arrays.stream(best[0]).max().getAsInt()) {
                return;
            }
            if (at == n) {
                if (leadAlike(part)) {
                    best[0] = part.clone();
                }
                return;
            }
            for (int k = 0; k <= used; k++) {
                part[at] = k;
                boolean fits = true;
                for (int j = 0; j < at; j++) {
                    fits &= part[j] != k || colours.get(j).equals(colours.get(at));
                }
                if (fits) {
                    tryParts(part, at + 1, Math.max(used, k + 1), colours, best);
                }
            }
        }

        private boolean leadAlike(int[] part) {
            for (int i = 0; i < n; i++) {
                for (int j = 0; j < i; j++) {
                    for (int k = 0; k < n && part[i] == part[j]; k++) {
                        if (into(i, part, k).against(into(j, part, k)) != 0) {
                            return false;
                        }
                    }
                }
            }
            return true;
        }

        private Fraction into(int i, int[] part, int k) {
            Fraction sum = Fraction.ZERO;
            for (int j = 0; j < n; j++) {
                sum = part[j] == k ? sum.plus(p[i][j]) : sum;
            }
            return sum;
        }

        Model melted(int[] part) {
            int m = Arrays.stream(part).max().getAsInt() + 1;
            Fraction[][] c = new Fraction[m][m];
            for (int i = 0; i < n; i++) {
                for (int k = 0; k < m; k++) {
                    c[part[i]][k] = into(i, part, k);
                }
            }
            return new Model(c);
        }
    }

    /** The whole bench a second time. */
    static final class Bench {
        final Model[] slots = new Model[6];
        final List<Integer> tape = new ArrayList<>();
        int[] out = {};

        Model in(int s) {
            return s >= 0 && s < 6 ? slots[s] : null;
        }

        private long put(int t, Model m) {
            if (m == null || t < 0 || t > 5 || m.q() > 60) {
                return -1;
            }
            slots[t] = m;
            return m.q();
        }

        long feed(int... numbers) {
            if (tape.size() > 60) {
                return -1;
            }
            for (int number : numbers) {
                for (int k = 3; k >= 0; k--) {
                    tape.add(number >> 8 * k & 255);
                }
            }
            return tape.size();
        }

        long end(int n) {
            if (n < 0 || n > tape.size()) {
                return 0;
            }
            tape.subList(n, tape.size()).clear();
            return 1;
        }

        long sheet(int s, int n, int q) {
            List<Integer> bytes = new ArrayList<>(tape);
            tape.clear();
            if (n < 1 || n > 8 || q < 1 || q > 60 || bytes.size() != n * n) {
                return -1;
            }
            Fraction[][] p = new Fraction[n][n];
            for (int i = 0; i < n; i++) {
                int sum = 0;
                for (int j = 0; j < n; j++) {
                    sum += bytes.get(i * n + j);
                    p[i][j] = Fraction.of(bytes.get(i * n + j), q);
                }
                if (sum != q) {
                    return -1;
                }
            }
            return put(s, new Model(p));
        }

        long melt(int s, int t) {
            List<Integer> colours = new ArrayList<>(tape);
            tape.clear();
            Model m = in(s);
            if (m == null || t < 0 || t > 5 || colours.size() != m.n) {
                return -1;
            }
            out = m.parts(colours);
            slots[t] = m.melted(out);
            return slots[t].n;
        }

        long about(int s, int what) {
            Model m = in(s);
            if (m == null) {
                return -1;
            }
            return switch (what) {
                case 0 -> m.n;
                case 1 -> m.q();
                case 2 -> m.heaps().size();
                case 3 -> m.closedHeaps();
                case 4 -> m.lastTime();
                case 5 -> !m.whole() ? 0 : m.beat(0) == 1 ? 2 : 1;
                case 6 -> m.bothWays() ? 1 : 0;
                default -> -1;
            };
        }

        long state(int s, int i, int what) {
            Model m = in(s);
            if (m == null || i < 0 || i >= m.n) {
                return -1;
            }
            return switch (what) {
                case 0 -> m.heapOf(i);
                case 1 -> m.closed(m.heaps().get(m.heapOf(i))) ? 1 : 0;
                case 2 -> m.beat(i);
                default -> -1;
            };
        }

        private static boolean isState(Model m, int i) {
            return m != null && i >= 0 && i < m.n;
        }

        private static boolean isSet(Model m, int set) {
            return m != null && set > 0 && set < 1 << m.n;
        }

        private static long tell(Fraction f, int what) {
            return f == null || what < 0 || what > 1 ? THROWN : f.told(what);
        }

        long chance(int s, int i, int j, int t, int what) {
            Model m = in(s);
            boolean fits = isState(m, i) && isState(m, j) && t >= 0 && t <= m.lastTime();
            return tell(fits ? m.power(t)[i][j] : null, what);
        }

        long apart(int s, int i, int j, int t, int what) {
            Model m = in(s);
            if (m == null || t < 0 || t > m.lastTime()) {
                return THROWN;
            }
            if (i == -1 && j == -1) {
                return tell(Model.widest(m.power(t)), what);
            }
            boolean fits = isState(m, i) && isState(m, j);
            return tell(fits ? Model.gap(m.power(t)[i], m.power(t)[j]) : null, what);
        }

        long when(int s, int p, int q) {
            Model m = in(s);
            return m == null || p < 0 || p > q || q < 1 || q > 1000 ? -1 : m.when(Fraction.of(p, q));
        }

        long stay(int s, int i, int what) {
            Model m = in(s);
            return tell(isState(m, i) && m.stay() != null ? m.stay()[i] : null, what);
        }

        long steps(int s, int i, int set, int what) {
            Model m = in(s);
            return tell(isState(m, i) && isSet(m, set) ? m.steps(i, set) : null, what);
        }

        long ahead(int s, int i, int set, int other, int what) {
            Model m = in(s);
            boolean fits = isState(m, i) && isSet(m, set) && isSet(m, other) && (set & other) == 0;
            return tell(fits ? m.ahead(i, set, other) : null, what);
        }
    }

    private interface Call {
        long answer();
    }

    private static void due(String call, Call got, long want) {
        long answer;
        try {
            answer = got.answer();
        } catch (NoSuchElementException e) {
            answer = THROWN;
        }
        if (answer != want) {
            wrong++;
            System.out.println(call + " answered " + answer + ", due is " + want);
        }
    }

    private static int mostly(int below) {
        return pick(25) == 0 ? pick(below + 6) - 3 : pick(below);
    }

    private static int[] row(int kind, int i, int n, int q) {
        int[] row = new int[n];
        if (kind == 0) {
            row[(i + 1 + (pick(6) == 0 ? 1 : 0)) % n] = q;
        } else if (kind == 1) {
            for (int k = 0; k < q; k++) {
                row[pick(n)]++;
            }
        } else if (kind == 2) {
            int first = pick(q + 1);
            row[pick(n)] += first;
            row[pick(n)] += q - first;
        } else if (kind == 3) {
            row[(i + 1) % n] += q / 2;
            row[(i + n - 1) % n] += q - q / 2;
        } else if (kind == 4) {
            row[i == 0 ? n - 1 : 0] += q - 1;
            row[i] += 1;
        } else {
            row[(i + 2) % n] += q / 2;
            row[pick(3) == 0 ? pick(n) : (i + 4) % n] += q - q / 2;
        }
        return row;
    }

    private static void feedBytes(BlendBench x, Bench y, int... bytes) {
        for (int from = 0; from < bytes.length || from == 0; from += 20) {
            int[] f = new int[5];
            for (int k = 0; k < 20 && from + k < bytes.length; k++) {
                f[k / 4] |= bytes[from + k] << 24 - 8 * (k % 4);
            }
            due("feed", () -> x.feed(f[0], f[1], f[2], f[3], f[4]), y.feed(f));
        }
        int n = pick(40) == 0 ? pick(90) - 4 : bytes.length;
        due("end " + n, () -> x.end(n) ? 1 : 0, y.end(n));
    }

    private static void sheet(BlendBench x, Bench y) {
        int n = 1 + pick(8);
        int q = pick(3) == 0 ? 60 : 1 + pick(60);
        int[] small = {1, 2, 3, 4, 6, 12};
        q = pick(2) == 0 ? small[pick(6)] : q;
        int kind = pick(6);
        int[] bytes = new int[n * n];
        for (int i = 0; i < n; i++) {
            System.arraycopy(row(pick(8) == 0 ? pick(6) : kind, i, n, q), 0, bytes, i * n, n);
        }
        if (pick(30) == 0) {
            bytes[pick(n * n)] = pick(256);
        }
        feedBytes(x, y, bytes);
        int s = mostly(6);
        int told = pick(30) == 0 ? pick(70) - 5 : q;
        int size = pick(30) == 0 ? pick(12) - 1 : n;
        due("sheet " + s + " " + Arrays.toString(bytes) + " " + told,
                () -> x.sheet(s, size, told), y.sheet(s, size, told));
    }

    private static void makeOfOther(BlendBench x, Bench y) {
        int s = mostly(6);
        int t = mostly(6);
        Model m = y.in(s);
        int kind = pick(3);
        if (kind == 0) {
            due("lazy", () -> x.lazy(s, t), y.put(t, m == null ? null : m.lazy()));
        } else if (kind == 1) {
            due("back", () -> x.back(s, t), y.put(t, m == null || !m.whole() ? null : m.back()));
        } else {
            int[] colours = new int[m == null ? 3 : m.n];
            for (int k = 0; k < colours.length; k++) {
                colours[k] = pick(5) == 0 ? 255 - pick(2) : 7;
            }
            feedBytes(x, y, colours);
            due("melt", () -> x.melt(s, t), y.melt(s, t));
            for (int k = -1; k < 9; k++) {
                int at = k;
                boolean in = k >= 0 && k < y.out.length;
                due("octet", () -> x.octet(at), in ? y.out[k] : THROWN);
            }
        }
    }

    private static void ask(BlendBench x, Bench y) {
        int s = mostly(6);
        int n = y.in(s) == null ? 3 : y.in(s).n;
        int i = mostly(n);
        int j = mostly(n);
        int t = y.in(s) == null ? 1 : mostly(y.in(s).lastTime() + 1);
        int what = pick(30) == 0 ? pick(5) - 2 : pick(2);
        int any = mostly(8);
        int set = mostly(1 << n);
        int other = pick(20) == 0 ? mostly(1 << n) : mostly(1 << n) & ~set;
        int[] cut = {-1};
        switch (pick(10)) {
            case 0 -> due("about " + any, () -> x.about(s, any), y.about(s, any));
            case 1 -> due("state", () -> x.state(s, i, any % 4), y.state(s, i, any % 4));
            case 2 -> due("chance", () -> x.chance(s, i, j, t, what), y.chance(s, i, j, t, what));
            case 3 -> due("apart", () -> x.apart(s, i, j, t, what), y.apart(s, i, j, t, what));
            case 4 -> due("apart", () -> x.apart(s, -1, -1, t, what), y.apart(s, -1, -1, t, what));
            case 5 -> askWhen(x, y, s);
            case 6 -> due("stay", () -> x.stay(s, i, what), y.stay(s, i, what));
            case 7 -> due("steps", () -> x.steps(s, i, set, what), y.steps(s, i, set, what));
            case 8 -> due("ahead", () -> x.ahead(s, i, set, other, what),
                    y.ahead(s, i, set, other, what));
            default -> {
                Fraction f = y.in(s) == null ? null : y.in(s).narrow(cut);
                due("narrow", () -> x.narrow(s, what), Bench.tell(f, what));
                due("cut", () -> x.cut(s), cut[0]);
            }
        }
    }

    private static void askWhen(BlendBench x, Bench y, int s) {
        int q = pick(20) == 0 ? pick(5) - 2 : 1 + pick(1005);
        int p = pick(20) == 0 ? pick(1100) - 50 : pick(Math.max(1, q + 1));
        due("when", () -> x.when(s, p, q), y.when(s, p, q));
    }

    private static void count(BlendBench x, Bench y) {
        long chains = Arrays.stream(y.slots).filter(m -> m != null).count();
        due("count(0)", () -> x.count(0), chains);
        due("count(1)", () -> x.count(1), y.tape.size());
        due("count(2)", () -> x.count(2), y.out.length);
        due("count(3)", () -> x.count(3), -1);
    }

    public static void main(String[] args) {
        for (int run = 0; run < RUNS && wrong < 20; run++) {
            BlendBench x = new BlendBench();
            Bench y = new Bench();
            // A call here may make up to sixteen: the object is not used beyond 512 of them.
            for (int k = 0; k < CALLS / 16; k++) {
                int kind = pick(4);
                if (k < 3 || kind == 0) {
                    sheet(x, y);
                } else if (kind == 1) {
                    makeOfOther(x, y);
                } else {
                    for (int asked = 0; asked < 6; asked++) {
                        ask(x, y);
                    }
                    count(x, y);
                }
            }
        }
        System.out.println(wrong == 0 ? "both solutions agree" : wrong + " answers are not as due");
        if (wrong != 0) {
            System.exit(1);
        }
    }
}
