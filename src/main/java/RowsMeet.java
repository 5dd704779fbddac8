/**
 * Systems of linear constraints in three variables over the rational numbers, decided exactly.
 *
 * Every question is answered by Fourier-Motzkin elimination over integers, which keeps strictness
 * exactly. All room is made in the constructor; no call makes an object.
 */
public final class RowsMeet {
    public static final int NONE = -1000001, BAD = -1000002, NO = -1000003, FULL = -1000004;

    private static final int LESS = 0, MOST = 1, SAME = 2;
    private static final int KIND = 3, RIGHT = 4, PARTY = 5, WIDTH = 6;
    private static final int MAX_ROWS = 12, MAX_PAST = 6, MAX_TEXT = 80, MAX_MEMBERS = 5;
    private static final int MAX_OPEN = 8, MAX_FACTOR = 5, MAX_RIGHT = 50;
    private static final int FAULT_BASE = -10;
    private static final int END = -1;

    private final Book book;
    private final Solver solver;
    private final Weights weights;
    private final Signs signs;
    private final Scan scan;
    private final FormulaReader formulas;
    private final OrderReader orders;
    private final Writer writer;
    private int bads;
    private int noes;
    private int fulls;

    public RowsMeet() {
        book = new Book();
        solver = new Solver(book);
        weights = new Weights(book);
        signs = new Signs(book, solver);
        scan = new Scan();
        formulas = new FormulaReader(book, scan, signs);
        orders = new OrderReader(scan);
        writer = new Writer(book);
    }

    // ---- constraints

    public int row(int a, int b, int c, int kind, int d, int party) {
        if (!isFactor(a) || !isFactor(b) || !isFactor(c)) {
            return bad();
        }
        if (!isProperty(KIND, kind) || !isProperty(RIGHT, d) || !isProperty(PARTY, party)) {
            return bad();
        }
        if (book.size >= MAX_ROWS) {
            return full();
        }
        book.remember();
        book.append(a, b, c, kind, d, party);
        return book.size - 1;
    }

    public int drops(int i) {
        if (!book.has(i)) {
            return bad();
        }
        book.remember();
        book.remove(i);
        return book.size;
    }

    public int sets(int i, int what, int v) {
        if (!book.has(i) || !isWithin(what, 0, 2) || !isProperty(KIND + what, v)) {
            return bad();
        }
        int before = book.get(i, KIND + what);
        book.remember();
        book.put(i, KIND + what, v);
        return before;
    }

    public int of(int i, int what) {
        if (!book.has(i) || !isWithin(what, 0, WIDTH - 1)) {
            return bad();
        }
        return book.get(i, what);
    }

    // ---- satisfiable sets

    public int can(int set) {
        if (!book.covers(set)) {
            return bad();
        }
        return solver.isSatisfiable(set) ? 1 : 0;
    }

    public int dimension(int set) {
        if (!book.covers(set)) {
            return bad();
        }
        if (!solver.isSatisfiable(set)) {
            return no();
        }
        return solver.dimensionOf(set);
    }

    public long bound(int set, int k, int up, int what) {
        if (!book.covers(set) || !isWithin(k, 0, 2) || !isWithin(up, 0, 1) || !isWithin(what, 0, 2)) {
            return bad();
        }
        if (!solver.measure(set, k)) {
            return no();
        }
        return up == 1 ? solver.span.highProperty(what) : solver.span.lowProperty(what);
    }

    public int brings(int set, int i) {
        if (!book.covers(set) || !book.has(i)) {
            return bad();
        }
        return solver.implies(set, i) ? 1 : 0;
    }

    public int spare(int set) {
        if (!book.covers(set)) {
            return bad();
        }
        int found = 0;
        for (int i = 0; i < MAX_ROWS; i++) {
            if (isIn(set, i) && solver.implies(set & ~(1 << i), i)) {
                found |= 1 << i;
            }
        }
        return found;
    }

    public int same(int set, int other) {
        if (!book.covers(set) || !book.covers(other)) {
            return bad();
        }
        for (int i = 0; i < MAX_ROWS; i++) {
            // What stands in both sets is implied by both.
            if (isIn(other & ~set, i) && !solver.implies(set, i)) {
                return 0;
            }
            if (isIn(set & ~other, i) && !solver.implies(other, i)) {
                return 0;
            }
        }
        return 1;
    }

    public long point(int set, int k, int what) {
        if (!book.covers(set) || !isWithin(k, 0, 2) || !isWithin(what, 0, 1)) {
            return bad();
        }
        if (!solver.isSatisfiable(set)) {
            return no();
        }
        solver.solve(set, k);
        return what == 0 ? solver.tops[k] : solver.bottoms[k];
    }

    // ---- unsatisfiable sets

    public int core(int set) {
        if (!book.covers(set)) {
            return bad();
        }
        if (solver.isSatisfiable(set)) {
            return no();
        }
        return solver.coreOf(set);
    }

    public int times(int set, int i) {
        if (!book.covers(set) || !book.has(i)) {
            return bad();
        }
        if (solver.isSatisfiable(set)) {
            return no();
        }
        weights.find(solver.coreOf(set));
        return weights.weightOf(i);
    }

    public int between(int what) {
        if (!isWithin(what, 0, 4)) {
            return bad();
        }
        if (solver.isSatisfiable(book.every())) {
            return no();
        }
        weights.find(solver.coreOf(book.every()));
        return what == KIND ? weights.interpolantKind() : weights.interpolantSum(what);
    }

    // ---- sign vectors and formulas

    public int sides(int set) {
        if (!book.covers(set) || Integer.bitCount(set) > MAX_MEMBERS) {
            return bad();
        }
        signs.forget();
        for (int i = 0; i < MAX_ROWS; i++) {
            if (isIn(set, i)) {
                signs.slotOf(i);
            }
        }
        solver.begin();
        return Signs.count(signs, 0, 0, -1);
    }

    public int formula(int what) {
        if (!isWithin(what, 0, 2)) {
            return bad();
        }
        int table = formulas.read();
        if (scan.hasFailed()) {
            return FAULT_BASE - scan.fault;
        }
        if (Integer.bitCount(formulas.occurring) > MAX_MEMBERS) {
            return no();
        }
        if (what == 2) {
            return formulas.occurring;
        }
        solver.begin();
        return Signs.count(signs, 0, 0, what == 0 ? table : -1);
    }

    // ---- texts

    public int type(int c) {
        if (!isWithin(c, 0, 127)) {
            return bad();
        }
        if (scan.length >= MAX_TEXT) {
            return full();
        }
        scan.append(c);
        return scan.length;
    }

    public int clear() {
        int before = scan.length;
        scan.length = 0;
        return before;
    }

    public int reads() {
        int added = orders.read();
        if (scan.hasFailed()) {
            return FAULT_BASE - scan.fault;
        }
        if (added > MAX_ROWS - book.size) {
            return full();
        }
        book.remember();
        for (int n = 0; n < added; n++) {
            book.append(orders.get(n, 0), orders.get(n, 1), orders.get(n, 2),
                    orders.get(n, KIND), orders.get(n, RIGHT), 0);
        }
        return added;
    }

    public int shown(int i, int j) {
        if (!book.has(i) || j < 0) {
            return bad();
        }
        writer.write(i);
        return writer.byteAt(j);
    }

    // ---- states

    public int back() {
        if (book.undoable <= 0) {
            return no();
        }
        book.restore();
        return book.undoable;
    }

    public int told(int what) {
        if (!isWithin(what, 0, 5)) {
            return bad();
        }
        return countOf(what);
    }

    public long digest() {
        long h = 2341;
        for (int what = 0; what <= 5; what++) {
            h = 31 * h + countOf(what);
        }
        for (int i = 0; i < book.size; i++) {
            for (int what = 0; what < WIDTH; what++) {
                h = 31 * h + book.get(i, what);
            }
        }
        int every = book.every();
        if (solver.isSatisfiable(every)) {
            h = 31 * h + 1;
            h = 31 * h + solver.dimensionOf(every);
            solver.solve(every, 2);
            return digestSolution(h);
        }
        int core = solver.coreOf(every);
        weights.find(core);
        h = 31 * h;
        return digestWeights(31 * h + core);
    }

    private long digestSolution(long start) {
        long h = start;
        for (int k = 0; k < 3; k++) {
            h = 31 * h + solver.tops[k];
            h = 31 * h + solver.bottoms[k];
        }
        return h;
    }

    private long digestWeights(long start) {
        long h = start;
        for (int i = 0; i < book.size; i++) {
            h = 31 * h + weights.weightOf(i);
        }
        return h;
    }

    private int countOf(int what) {
        switch (what) {
            case 0:
                return bads;
            case 1:
                return noes;
            case 2:
                return fulls;
            case 3:
                return scan.length;
            case 4:
                return book.size;
            default:
                return book.undoable;
        }
    }

    private int bad() {
        bads++;
        return BAD;
    }

    private int no() {
        noes++;
        return NO;
    }

    private int full() {
        fulls++;
        return FULL;
    }

    private static boolean isWithin(int value, int least, int most) {
        return value >= least && value <= most;
    }

    private static boolean isFactor(int value) {
        return isWithin(value, -MAX_FACTOR, MAX_FACTOR);
    }

    private static boolean isProperty(int what, int value) {
        if (what == KIND) {
            return isWithin(value, LESS, SAME);
        }
        if (what == RIGHT) {
            return isWithin(value, -MAX_RIGHT, MAX_RIGHT);
        }
        return what == PARTY && isWithin(value, 0, 1);
    }

    private static boolean isIn(int set, int i) {
        return (set >> i & 1) != 0;
    }

    private static long gcd(long a, long b) {
        long high = Math.abs(a);
        long low = Math.abs(b);
        // Euclid's algorithm on longs ends within 91 steps.
        for (int step = 0; step < 100 && low != 0; step++) {
            long rest = high % low;
            high = low;
            low = rest;
        }
        return high;
    }

    /** The constraints, six numbers each, and the states that can be restored. */
    private static final class Book {
        private static final int CELLS = MAX_ROWS * WIDTH;

        private final int[] cells = new int[CELLS];
        private final int[] past = new int[MAX_PAST * CELLS];
        private final int[] pastSizes = new int[MAX_PAST];
        private int size;
        private int next;
        private int undoable;

        boolean has(int i) {
            return i >= 0 && i < size;
        }

        boolean covers(int set) {
            return set >>> size == 0;
        }

        int every() {
            return (1 << size) - 1;
        }

        int get(int i, int what) {
            return has(i) && isWithin(what, 0, WIDTH - 1) ? cells[i * WIDTH + what] : 0;
        }

        void put(int i, int what, int value) {
            if (has(i) && isWithin(what, 0, WIDTH - 1)) {
                cells[i * WIDTH + what] = value;
            }
        }

        void append(int a, int b, int c, int kind, int d, int party) {
            if (size >= MAX_ROWS) {
                return;
            }
            int at = size * WIDTH;
            cells[at] = a;
            cells[at + 1] = b;
            cells[at + 2] = c;
            cells[at + KIND] = kind;
            cells[at + RIGHT] = d;
            cells[at + PARTY] = party;
            size++;
        }

        void remove(int i) {
            if (!has(i)) {
                return;
            }
            for (int at = i * WIDTH; at < (size - 1) * WIDTH; at++) {
                cells[at] = cells[at + WIDTH];
            }
            size--;
        }

        // The past is a ring: a seventh state takes the place of the oldest one.
        void remember() {
            System.arraycopy(cells, 0, past, next * CELLS, CELLS);
            pastSizes[next] = size;
            next = (next + 1) % MAX_PAST;
            undoable = Math.min(undoable + 1, MAX_PAST);
        }

        void restore() {
            if (undoable <= 0) {
                return;
            }
            next = (next + MAX_PAST - 1) % MAX_PAST;
            System.arraycopy(past, next * CELLS, cells, 0, CELLS);
            size = pastSizes[next];
            undoable--;
        }
    }

    /**
     * Rows of a system that is being solved: three factors and a right side each. A row without
     * variables is never kept: it says nothing, or it breaks the whole system.
     */
    private static final class Rows {
        private static final int STEP = 4;

        private final long[] cells;
        private final int[] kinds;
        private int size;
        private boolean broken;

        Rows(int room) {
            int places = Math.max(room, 0);
            cells = new long[places * STEP];
            kinds = new int[places];
        }

        void empty() {
            size = 0;
            broken = false;
        }

        void keep(long x, long y, long z, long right, int kind) {
            if (x == 0 && y == 0 && z == 0) {
                boolean holds = kind == LESS ? right > 0 : kind == MOST ? right >= 0 : right == 0;
                broken = broken || !holds;
                return;
            }
            if (size >= kinds.length) {
                return;
            }
            int at = size * STEP;
            cells[at] = x;
            cells[at + 1] = y;
            cells[at + 2] = z;
            cells[at + 3] = right;
            kinds[size] = kind;
            size++;
        }

        /** Writes the projection of this system along variable k. */
        void eliminate(int k, Rows into) {
            into.empty();
            into.broken = broken;
            int pivot = equalityWith(k);
            for (int i = 0; i < size; i++) {
                long own = cells[i * STEP + k];
                if (own == 0) {
                    mix(i, 1, i, 0, into);
                } else if (pivot >= 0 && i != pivot) {
                    long other = cells[pivot * STEP + k];
                    mix(i, Math.abs(other), pivot, other > 0 ? -own : own, into);
                } else if (pivot < 0 && own > 0) {
                    for (int j = 0; j < size; j++) {
                        long other = cells[j * STEP + k];
                        if (other < 0) {
                            mix(i, -other, j, own, into);
                        }
                    }
                }
            }
        }

        private int equalityWith(int k) {
            for (int i = 0; i < size; i++) {
                if (kinds[i] == SAME && cells[i * STEP + k] != 0) {
                    return i;
                }
            }
            return -1;
        }

        // A sum is strict if one of its rows is, and an equality only if both are.
        private void mix(int i, long p, int j, long q, Rows into) {
            int m = i * STEP;
            int n = j * STEP;
            into.keep(p * cells[m] + q * cells[n],
                    p * cells[m + 1] + q * cells[n + 1],
                    p * cells[m + 2] + q * cells[n + 2],
                    p * cells[m + 3] + q * cells[n + 3],
                    Math.min(kinds[i], kinds[j]));
        }
    }

    /** The values that one variable can take. A bound with the bottom 0 does not exist. */
    private static final class Span {
        private long lowTop;
        private long lowBottom;
        private boolean lowOpen;
        private long highTop;
        private long highBottom;
        private boolean highOpen;
        private long pickedTop;
        private long pickedBottom;

        void reset() {
            lowBottom = 0;
            highBottom = 0;
        }

        void take(long factor, long right, int kind) {
            long top = factor > 0 ? right : -right;
            long bottom = Math.abs(factor);
            if (bottom != 0 && (kind == SAME || factor > 0)) {
                lowerHigh(top, bottom, kind == LESS);
            }
            if (bottom != 0 && (kind == SAME || factor < 0)) {
                raiseLow(top, bottom, kind == LESS);
            }
        }

        private void lowerHigh(long top, long bottom, boolean open) {
            int order = highBottom == 0 ? -1 : compare(top, bottom, highTop, highBottom);
            if (order < 0) {
                highTop = top;
                highBottom = bottom;
                highOpen = open;
            } else if (order == 0) {
                highOpen = highOpen || open;
            }
        }

        private void raiseLow(long top, long bottom, boolean open) {
            int order = lowBottom == 0 ? 1 : compare(top, bottom, lowTop, lowBottom);
            if (order > 0) {
                lowTop = top;
                lowBottom = bottom;
                lowOpen = open;
            } else if (order == 0) {
                lowOpen = lowOpen || open;
            }
        }

        boolean isEmpty() {
            if (lowBottom == 0 || highBottom == 0) {
                return false;
            }
            int order = compare(lowTop, lowBottom, highTop, highBottom);
            return order > 0 || order == 0 && (lowOpen || highOpen);
        }

        long lowProperty(int what) {
            return property(lowTop, lowBottom, lowOpen, what);
        }

        long highProperty(int what) {
            return property(highTop, highBottom, highOpen, what);
        }

        private static long property(long top, long bottom, boolean open, int what) {
            if (bottom == 0) {
                return NONE;
            }
            if (what == 2) {
                return open ? 0 : 1;
            }
            long divisor = gcd(top, bottom);
            return divisor == 0 ? 0 : (what == 0 ? top : bottom) / divisor;
        }

        // Compares by continued fractions, because products of both sides might overflow.
        private static int compare(long top, long bottom, long otherTop, long otherBottom) {
            long a = top;
            long b = bottom;
            long c = otherTop;
            long d = otherBottom;
            for (int step = 0; step < 100 && b > 0 && d > 0; step++) {
                long whole = Math.floorDiv(a, b);
                long otherWhole = Math.floorDiv(c, d);
                if (whole != otherWhole) {
                    return whole < otherWhole ? -1 : 1;
                }
                long rest = a - whole * b;
                long otherRest = c - otherWhole * d;
                // What is left is compared by the reciprocals, so the sides change.
                a = d;
                c = b;
                b = otherRest;
                d = rest;
            }
            return b == d ? 0 : d == 0 ? -1 : b == 0 ? 1 : 0;
        }

        /** Chooses the canonical value. */
        void pick() {
            if (lowBottom > 0 && !lowOpen) {
                choose(lowTop, lowBottom);
            } else if (highBottom > 0 && !highOpen) {
                choose(highTop, highBottom);
            } else if (lowBottom > 0 && highBottom > 0) {
                pickBetween();
            } else if (lowBottom > 0) {
                choose(Math.floorDiv(lowTop, lowBottom) + 1, 1);
            } else if (highBottom > 0) {
                choose(-Math.floorDiv(-highTop, highBottom) - 1, 1);
            } else {
                choose(0, 1);
            }
        }

        private void choose(long top, long bottom) {
            long divisor = gcd(top, bottom);
            if (divisor != 0) {
                pickedTop = top / divisor;
                pickedBottom = bottom / divisor;
            }
        }

        private void pickBetween() {
            if (lowTop >= 0) {
                pickSimplest(lowTop, lowBottom, highTop, highBottom);
            } else if (highTop > 0) {
                choose(0, 1);
            } else {
                pickSimplest(-highTop, highBottom, -lowTop, lowBottom);
                pickedTop = -pickedTop;
            }
        }

        // Follows the continued fraction that both bounds share; 0 <= a/b < c/d, and d = 0 is endless.
        private void pickSimplest(long a, long b, long c, long d) {
            long olderTop = 0;
            long olderBottom = 1;
            long newerTop = 1;
            long newerBottom = 0;
            for (int step = 0; step < 100 && b > 0; step++) {
                long whole = Math.floorDiv(a, b);
                boolean ends = (whole + 1) * d < c;
                long part = ends ? whole + 1 : whole;
                long top = part * newerTop + olderTop;
                long bottom = part * newerBottom + olderBottom;
                if (ends) {
                    choose(top, bottom);
                    return;
                }
                olderTop = newerTop;
                olderBottom = newerBottom;
                newerTop = top;
                newerBottom = bottom;
                long rest = a - whole * b;
                long otherRest = c - whole * d;
                a = d;
                c = b;
                b = otherRest;
                d = rest;
            }
        }
    }

    /** The rank of vectors that are added one after the other. */
    private static final class Rank {
        private long x;
        private long y;
        private long z;
        private int rank;

        // With rank 1 the vector kept is the first one, with rank 2 the normal of the plane.
        void add(long a, long b, long c) {
            if (rank == 0 && (a != 0 || b != 0 || c != 0)) {
                hold(a, b, c);
            } else if (rank == 1) {
                long p = y * c - z * b;
                long q = z * a - x * c;
                long r = x * b - y * a;
                if (p != 0 || q != 0 || r != 0) {
                    hold(p, q, r);
                }
            } else if (rank == 2 && x * a + y * b + z * c != 0) {
                rank = 3;
            }
        }

        private void hold(long a, long b, long c) {
            x = a;
            y = b;
            z = c;
            rank++;
        }
    }

    /** Decides systems made of constraints of the book. */
    private static final class Solver {
        // 13 rows (12 and a denied one) give at most 6 * 7 rows, and 42 rows at most 21 * 21.
        private static final int ROOM = 13, FEWER_ROOM = 42, SINGLE_ROOM = 441;

        private final Book book;
        private final Rows whole = new Rows(ROOM);
        private final Rows fewer = new Rows(FEWER_ROOM);
        private final Rows single = new Rows(SINGLE_ROOM);
        private final Span span = new Span();
        private final Rank rank = new Rank();
        private final long[] part = new long[4];
        private final long[] tops = new long[3];
        private final long[] bottoms = new long[3];

        Solver(Book book) {
            this.book = book;
        }

        void begin() {
            whole.empty();
        }

        int mark() {
            return whole.size;
        }

        // Only for a mark at which the system was satisfiable.
        void returnTo(int mark) {
            whole.size = Math.max(0, Math.min(mark, whole.size));
            whole.broken = false;
        }

        private void load(int set) {
            whole.empty();
            for (int i = 0; i < MAX_ROWS; i++) {
                if (isIn(set, i)) {
                    keep(i, 1, book.get(i, KIND));
                }
            }
        }

        private void keep(int i, int factor, int kind) {
            whole.keep(factor * book.get(i, 0), factor * book.get(i, 1), factor * book.get(i, 2),
                    factor * book.get(i, RIGHT), kind);
        }

        /** Finds the values of variable k in the loaded system; false if there are none. */
        private boolean narrow(int k) {
            span.reset();
            whole.eliminate(k == 2 ? 1 : 2, fewer);
            if (fewer.broken) {
                return false;
            }
            fewer.eliminate(k == 0 ? 1 : 0, single);
            if (single.broken) {
                return false;
            }
            for (int i = 0; i < single.size; i++) {
                int at = i * Rows.STEP;
                span.take(single.cells[at + k], single.cells[at + 3], single.kinds[i]);
            }
            return !span.isEmpty();
        }

        boolean measure(int set, int k) {
            load(set);
            return narrow(k);
        }

        boolean isSatisfiable(int set) {
            return measure(set, 0);
        }

        /** Tells whether the set can hold together with constraint i, multiplied and of another kind. */
        private boolean meets(int set, int i, int factor, int kind) {
            load(set);
            keep(i, factor, kind);
            return narrow(0);
        }

        boolean implies(int set, int i) {
            int kind = book.get(i, KIND);
            if (kind == SAME) {
                return !meets(set, i, 1, LESS) && !meets(set, i, -1, LESS);
            }
            return !meets(set, i, -1, kind == LESS ? MOST : LESS);
        }

        /** Adds constraint i with a sign to the loaded system and tells whether that still holds. */
        boolean takesSign(int i, int sign) {
            keep(i, sign > 0 ? -1 : 1, sign == 0 ? SAME : LESS);
            return narrow(0);
        }

        /** The dimension of a satisfiable set: what the equalities leave, the hidden ones too. */
        int dimensionOf(int set) {
            rank.rank = 0;
            for (int i = 0; i < MAX_ROWS; i++) {
                int kind = book.get(i, KIND);
                if (isIn(set, i) && (kind == SAME || kind == MOST && !meets(set, i, 1, LESS))) {
                    rank.add(book.get(i, 0), book.get(i, 1), book.get(i, 2));
                }
            }
            return 3 - rank.rank;
        }

        /** Finds the canonical solution of a satisfiable set, up to variable last. */
        void solve(int set, int last) {
            for (int k = 0; k <= last && k < 3; k++) {
                loadWithValues(set, k);
                narrow(k);
                span.pick();
                tops[k] = span.pickedTop;
                bottoms[k] = span.pickedBottom;
            }
        }

        private void loadWithValues(int set, int known) {
            whole.empty();
            for (int i = 0; i < MAX_ROWS; i++) {
                if (isIn(set, i)) {
                    putValues(i, known);
                    whole.keep(part[0], part[1], part[2], part[3], book.get(i, KIND));
                }
            }
        }

        // A value has few digits (a denominator of x is at most 1000, of y 100000): longs suffice.
        private void putValues(int i, int known) {
            for (int k = 0; k < 3; k++) {
                part[k] = book.get(i, k);
            }
            part[3] = book.get(i, RIGHT);
            for (int k = 0; k < known && k < 3; k++) {
                long moved = part[k] * tops[k];
                for (int n = 0; n < 4; n++) {
                    part[n] *= bottoms[k];
                }
                part[k] = 0;
                part[3] -= moved;
            }
        }

        int coreOf(int set) {
            int left = set;
            for (int i = MAX_ROWS - 1; i >= 0; i--) {
                int without = left & ~(1 << i);
                if (without != left && !measure(without, 0)) {
                    left = without;
                }
            }
            return left;
        }
    }

    /**
     * The multipliers of a core. By Helly's theorem a core has at most 4 constraints, and their
     * factors have one dependence only. With unit vectors put beside them until there are 4
     * vectors of rank 3, the dependence is made of their 3 by 3 determinants.
     */
    private static final class Weights {
        private static final int MOST_VECTORS = 4;

        private final Book book;
        private final int[] members = new int[MOST_VECTORS];
        private final int[] vectors = new int[MOST_VECTORS * 3];
        private final int[] found = new int[MOST_VECTORS];
        private int size;

        Weights(Book book) {
            this.book = book;
        }

        void find(int core) {
            size = 0;
            for (int i = 0; i < MAX_ROWS; i++) {
                if (isIn(core, i) && size < MOST_VECTORS) {
                    members[size] = i;
                    for (int k = 0; k < 3; k++) {
                        vectors[size * 3 + k] = book.get(i, k);
                    }
                    size++;
                }
            }
            boolean done = false;
            for (int units = 0; units < 8 && !done; units++) {
                done = Integer.bitCount(units) == MOST_VECTORS - size && isSolvedWith(units);
            }
            shorten();
            turn();
        }

        private boolean isSolvedWith(int units) {
            int vector = size;
            for (int axis = 0; axis < 3; axis++) {
                if (isIn(units, axis) && vector < MOST_VECTORS) {
                    for (int k = 0; k < 3; k++) {
                        vectors[vector * 3 + k] = k == axis ? 1 : 0;
                    }
                    vector++;
                }
            }
            boolean solved = false;
            for (int n = 0; n < MOST_VECTORS; n++) {
                int value = determinant(n == 0 ? 1 : 0, n <= 1 ? 2 : 1, n <= 2 ? 3 : 2);
                found[n] = n % 2 == 0 ? value : -value;
                solved = solved || value != 0;
            }
            return solved;
        }

        private int determinant(int u, int v, int w) {
            int p = u * 3;
            int q = v * 3;
            int r = w * 3;
            return vectors[p] * (vectors[q + 1] * vectors[r + 2] - vectors[q + 2] * vectors[r + 1])
                    - vectors[p + 1] * (vectors[q] * vectors[r + 2] - vectors[q + 2] * vectors[r])
                    + vectors[p + 2] * (vectors[q] * vectors[r + 1] - vectors[q + 1] * vectors[r]);
        }

        private void shorten() {
            long divisor = 0;
            for (int n = 0; n < size; n++) {
                divisor = gcd(divisor, found[n]);
            }
            for (int n = 0; n < size && divisor > 1; n++) {
                found[n] = (int) (found[n] / divisor);
            }
        }

        // The sign is given by an inequality; where all are equalities, by the right sides.
        private void turn() {
            int direction = 0;
            int sum = 0;
            for (int n = 0; n < size; n++) {
                if (book.get(members[n], KIND) != SAME) {
                    direction = found[n];
                }
                sum += found[n] * book.get(members[n], RIGHT);
            }
            boolean wrong = direction < 0 || direction == 0 && sum > 0;
            for (int n = 0; n < size && wrong; n++) {
                found[n] = -found[n];
            }
        }

        int weightOf(int i) {
            for (int n = 0; n < size; n++) {
                if (members[n] == i) {
                    return found[n];
                }
            }
            return 0;
        }

        int interpolantSum(int what) {
            int sum = 0;
            for (int n = 0; n < size; n++) {
                if (book.get(members[n], PARTY) == 0) {
                    sum += found[n] * book.get(members[n], what);
                }
            }
            return sum;
        }

        // The kinds are ordered so that the lowest of them is the kind of the sum.
        int interpolantKind() {
            int kind = SAME;
            for (int n = 0; n < size; n++) {
                if (book.get(members[n], PARTY) == 0) {
                    kind = Math.min(kind, book.get(members[n], KIND));
                }
            }
            return kind;
        }
    }

    /** Counts the sign vectors of at most five constraints, which have a slot each. */
    private static final class Signs {
        private final Book book;
        private final Solver solver;
        private final int[] members = new int[MAX_MEMBERS];
        private int size;

        Signs(Book book, Solver solver) {
            this.book = book;
            this.solver = solver;
        }

        void forget() {
            size = 0;
        }

        /** The slot of a constraint, a new one if it has none yet; -1 if all are taken. */
        int slotOf(int i) {
            for (int slot = 0; slot < size; slot++) {
                if (members[slot] == i) {
                    return slot;
                }
            }
            if (size >= MAX_MEMBERS) {
                return -1;
            }
            members[size] = i;
            size++;
            return size - 1;
        }

        /**
         * Counts the sign vectors that continue the loaded one and for which the table has a 1.
         * Bit s of a place in the table tells whether the constraint of slot s is true.
         */
        private static int count(Signs signs, int slot, int place, int table) {
            if (slot >= signs.size || slot >= MAX_MEMBERS) {
                return table >>> place & 1;
            }
            int i = signs.members[slot];
            int mark = signs.solver.mark();
            int total = 0;
            for (int sign = -1; sign <= 1; sign++) {
                if (signs.solver.takesSign(i, sign)) {
                    int truth = signs.isTrue(i, sign) ? 1 << slot : 0;
                    total += count(signs, slot + 1, place | truth, table);
                }
                signs.solver.returnTo(mark);
            }
            return total;
        }

        private boolean isTrue(int i, int sign) {
            int kind = book.get(i, KIND);
            return kind == LESS ? sign < 0 : kind == MOST ? sign <= 0 : sign == 0;
        }
    }

    /** The text, and a place in it from which it is read. */
    private static final class Scan {
        private final byte[] bytes = new byte[MAX_TEXT];
        private int length;
        private int place;
        private int fault;

        void append(int c) {
            if (length < MAX_TEXT) {
                bytes[length] = (byte) c;
                length++;
            }
        }

        void start() {
            place = 0;
            fault = -1;
        }

        boolean hasFailed() {
            return fault >= 0;
        }

        void failAt(int where) {
            if (fault < 0) {
                fault = where;
            }
        }

        /** The byte at the place, blanks or not; END behind the text. */
        int here() {
            return place < length && place < MAX_TEXT ? bytes[place] : END;
        }

        /** The next byte that is no blank. */
        int peek() {
            while (place < length && place < MAX_TEXT && bytes[place] == ' ') {
                place++;
            }
            return place < length && place < MAX_TEXT ? bytes[place] : END;
        }

        void step() {
            place++;
        }

        void expect(int c) {
            if (peek() == c) {
                step();
            } else {
                failAt(place);
            }
        }

        /** Reads one or two digits that stand at the place. */
        int readNumber(int most) {
            int first = place;
            int value = 0;
            for (int digits = 0; digits < 2 && isWithin(here(), '0', '9'); digits++) {
                value = 10 * value + here() - '0';
                step();
            }
            if (place == first || isWithin(here(), '0', '9')) {
                failAt(place);
            } else if (value > most) {
                failAt(first);
            }
            return value;
        }
    }

    /**
     * Reads the text as a formula. What is read is kept as a truth table of 32 bits over the slots
     * of the constraints, so that not, and and or are operations on bits.
     */
    private static final class FormulaReader {
        private static final int[] COLUMNS = {0xAAAAAAAA, 0xCCCCCCCC, 0xF0F0F0F0, 0xFF00FF00, 0xFFFF0000};

        private final Book book;
        private final Scan scan;
        private final Signs signs;
        private int occurring;

        FormulaReader(Book book, Scan scan, Signs signs) {
            this.book = book;
            this.scan = scan;
            this.signs = signs;
        }

        int read() {
            scan.start();
            signs.forget();
            occurring = 0;
            int table = readSum(0);
            if (scan.peek() != END) {
                scan.failAt(scan.place);
            }
            return table;
        }

        private int readSum(int depth) {
            int table = readProduct(depth);
            for (int n = 0; n < MAX_TEXT && !scan.hasFailed() && scan.peek() == '|'; n++) {
                scan.step();
                table |= readProduct(depth);
            }
            return table;
        }

        private int readProduct(int depth) {
            int table = readFactor(depth);
            for (int n = 0; n < MAX_TEXT && !scan.hasFailed() && scan.peek() == '&'; n++) {
                scan.step();
                table &= readFactor(depth);
            }
            return table;
        }

        private int readFactor(int depth) {
            int denials = 0;
            for (int n = 0; n < MAX_TEXT && scan.peek() == '!'; n++) {
                scan.step();
                denials++;
            }
            int table = scan.peek() == '(' ? readInner(depth) : readConstraint();
            return denials % 2 == 0 ? table : ~table;
        }

        private int readInner(int depth) {
            if (depth >= MAX_OPEN) {
                scan.failAt(scan.place);
                return 0;
            }
            scan.step();
            int table = readSum(depth + 1);
            if (!scan.hasFailed()) {
                scan.expect(')');
            }
            return table;
        }

        private int readConstraint() {
            int i = scan.readNumber(book.size - 1);
            if (scan.hasFailed()) {
                return 0;
            }
            occurring |= 1 << i;
            int slot = signs.slotOf(i);
            return slot >= 0 && slot < COLUMNS.length ? COLUMNS[slot] : 0;
        }
    }

    /** Reads the text as a sequence of orders. */
    private static final class OrderReader {
        private final Scan scan;
        // One order more than there is room for: those that are too many are only checked.
        private final int[] cells = new int[(MAX_ROWS + 1) * WIDTH];

        OrderReader(Scan scan) {
            this.scan = scan;
        }

        int get(int n, int what) {
            return isWithin(n, 0, MAX_ROWS) && isWithin(what, 0, WIDTH - 1) ? cells[n * WIDTH + what] : 0;
        }

        /** Returns the number of orders. */
        int read() {
            scan.start();
            int count = 0;
            do {
                readOrder(Math.min(count, MAX_ROWS) * WIDTH);
                count++;
            } while (count < MAX_TEXT && !scan.hasFailed() && scan.peek() != END);
            return count;
        }

        private void readOrder(int at) {
            for (int k = 0; k < 3; k++) {
                cells[at + k] = 0;
            }
            if (scan.peek() == '0') {
                scan.step();
            } else {
                readTerms(at);
            }
            if (!scan.hasFailed()) {
                cells[at + KIND] = readKind();
            }
            if (!scan.hasFailed()) {
                cells[at + RIGHT] = readRight();
            }
            if (!scan.hasFailed()) {
                scan.expect(';');
            }
        }

        // A fourth term ends the loop: its letter has occurred.
        private void readTerms(int at) {
            int seen = 0;
            for (int n = 0; n < 4; n++) {
                int sign = readSign(n == 0);
                if (sign == 0) {
                    return;
                }
                int factor = readDigit();
                int letter = scan.peek() - 'x';
                if (!isWithin(letter, 0, 2) || isIn(seen, letter)) {
                    scan.failAt(scan.place);
                    return;
                }
                scan.step();
                seen |= 1 << letter;
                cells[at + letter] = sign * factor;
            }
        }

        /** Returns 0 if no further term begins here. */
        private int readSign(boolean isFirst) {
            int c = scan.peek();
            if (c == '-') {
                scan.step();
                return -1;
            }
            if (c == '+' && !isFirst) {
                scan.step();
                return 1;
            }
            return isFirst ? 1 : 0;
        }

        private int readDigit() {
            int c = scan.peek();
            if (!isWithin(c, '1', '0' + MAX_FACTOR)) {
                return 1;
            }
            scan.step();
            return c - '0';
        }

        private int readKind() {
            int c = scan.peek();
            if (c != '<' && c != '=') {
                scan.failAt(scan.place);
                return LESS;
            }
            scan.step();
            if (c == '=') {
                return SAME;
            }
            if (scan.here() != '=') {
                return LESS;
            }
            scan.step();
            return MOST;
        }

        private int readRight() {
            boolean negative = scan.peek() == '-';
            if (negative) {
                scan.step();
                scan.peek();
            }
            int value = scan.readNumber(MAX_RIGHT);
            return negative ? -value : value;
        }
    }

    /** Writes a constraint as a text; the longest is -5x-5y-5z<=-50 with 14 bytes. */
    private static final class Writer {
        private static final int LONGEST = 14;

        private final Book book;
        private final byte[] bytes = new byte[LONGEST];
        private int length;

        Writer(Book book) {
            this.book = book;
        }

        int byteAt(int j) {
            return j >= 0 && j < length && j < LONGEST ? bytes[j] : NONE;
        }

        void write(int i) {
            length = 0;
            for (int k = 0; k < 3; k++) {
                writeTerm(book.get(i, k), 'x' + k);
            }
            if (length == 0) {
                put('0');
            }
            writeKind(book.get(i, KIND));
            writeRight(book.get(i, RIGHT));
        }

        private void writeTerm(int factor, int letter) {
            if (factor == 0) {
                return;
            }
            if (factor < 0) {
                put('-');
            } else if (length > 0) {
                put('+');
            }
            if (Math.abs(factor) > 1) {
                put('0' + Math.abs(factor));
            }
            put(letter);
        }

        private void writeKind(int kind) {
            if (kind != SAME) {
                put('<');
            }
            if (kind != LESS) {
                put('=');
            }
        }

        private void writeRight(int right) {
            int size = Math.abs(right);
            if (right < 0) {
                put('-');
            }
            if (size >= 10) {
                put('0' + size / 10);
            }
            put('0' + size % 10);
        }

        private void put(int c) {
            if (length < LONGEST) {
                bytes[length] = (byte) c;
                length++;
            }
        }
    }
}
