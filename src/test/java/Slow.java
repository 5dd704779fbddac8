import java.math.BigInteger;
import java.util.ArrayDeque;
import java.util.ArrayList;
import java.util.Deque;
import java.util.List;

/**
 * A slow model of the document, written apart from the class: linear programs by the simplex
 * method, the canonical solution by search, texts by automata.
 */
final class Slow {
    static final int NONE = -1000001, BAD = -1000002, NO = -1000003, FULL = -1000004;

    private List<int[]> rows = new ArrayList<>();
    private final Deque<List<int[]>> past = new ArrayDeque<>();
    private String text = "";
    private final int[] counts = new int[3];

    private int bad() {
        counts[0]++;
        return BAD;
    }

    private int no() {
        counts[1]++;
        return NO;
    }

    private int full() {
        counts[2]++;
        return FULL;
    }

    private void change(List<int[]> to) {
        past.addLast(rows);
        if (past.size() > 6) {
            past.removeFirst();
        }
        rows = to;
    }

    private static boolean out(int v, int least, int most) {
        return v < least || v > most;
    }

    private boolean none(int i) {
        return i < 0 || i >= rows.size();
    }

    private boolean strange(int set) {
        return set < 0 || set >= 1 << rows.size();
    }

    private int all() {
        return (1 << rows.size()) - 1;
    }

    private static boolean in(int set, int i) {
        return (set & 1 << i) != 0;
    }

    // ---- constraints

    int row(int a, int b, int c, int kind, int d, int party) {
        if (out(a, -5, 5) || out(b, -5, 5) || out(c, -5, 5) || out(kind, 0, 2) || out(d, -50, 50)
                || out(party, 0, 1)) {
            return bad();
        }
        if (rows.size() == 12) {
            return full();
        }
        List<int[]> next = new ArrayList<>(rows);
        next.add(new int[] {a, b, c, kind, d, party});
        change(next);
        return rows.size() - 1;
    }

    int drops(int i) {
        if (none(i)) {
            return bad();
        }
        List<int[]> next = new ArrayList<>(rows);
        next.remove(i);
        change(next);
        return rows.size();
    }

    int sets(int i, int what, int v) {
        if (none(i) || out(what, 0, 2)) {
            return bad();
        }
        if (what == 0 && out(v, 0, 2) || what == 1 && out(v, -50, 50) || what == 2 && out(v, 0, 1)) {
            return bad();
        }
        List<int[]> next = new ArrayList<>(rows);
        int[] changed = rows.get(i).clone();
        changed[3 + what] = v;
        next.set(i, changed);
        int before = rows.get(i)[3 + what];
        change(next);
        return before;
    }

    int of(int i, int what) {
        return none(i) || out(what, 0, 5) ? bad() : rows.get(i)[what];
    }

    // ---- satisfiable sets

    private Simplex.Line line(int i) {
        int[] r = rows.get(i);
        return new Simplex.Line(new Ratio[] {Ratio.of(r[0]), Ratio.of(r[1]), Ratio.of(r[2])},
                Ratio.of(r[4]), r[3]);
    }

    private List<Simplex.Line> lines(int set) {
        List<Simplex.Line> lines = new ArrayList<>();
        for (int i = 0; i < rows.size(); i++) {
            if (in(set, i)) {
                lines.add(line(i));
            }
        }
        return lines;
    }

    private static List<Simplex.Line> and(List<Simplex.Line> lines, Simplex.Line more) {
        List<Simplex.Line> longer = new ArrayList<>(lines);
        longer.add(more);
        return longer;
    }

    private static Simplex.Line value(int k, Ratio v) {
        Ratio[] factors = {Ratio.ZERO, Ratio.ZERO, Ratio.ZERO};
        factors[k] = Ratio.ONE;
        return new Simplex.Line(factors, v, 2);
    }

    private boolean meets(int set) {
        return Simplex.solve(lines(set)) != null;
    }

    int can(int set) {
        return strange(set) ? bad() : meets(set) ? 1 : 0;
    }

    int dimension(int set) {
        if (strange(set)) {
            return bad();
        }
        return meets(set) ? dimensionOf(lines(set)) : no();
    }

    /** Looks for points outside the span of those found, until there is none. */
    private static int dimensionOf(List<Simplex.Line> lines) {
        Ratio[] start = Simplex.solve(lines);
        List<Ratio[]> ways = new ArrayList<>();
        boolean grown = true;
        while (grown) {
            grown = false;
            for (Ratio[] normal : complement(ways)) {
                Simplex.Line through = new Simplex.Line(normal, dot(normal, start), 0);
                Ratio[] found = Simplex.solve(and(lines, through));
                if (found == null) {
                    found = Simplex.solve(and(lines, through.negated(0)));
                }
                if (found != null) {
                    ways.add(new Ratio[] {found[0].minus(start[0]), found[1].minus(start[1]),
                            found[2].minus(start[2])});
                    grown = true;
                    break;
                }
            }
        }
        return ways.size();
    }

    private static Ratio dot(Ratio[] u, Ratio[] v) {
        return u[0].times(v[0]).plus(u[1].times(v[1])).plus(u[2].times(v[2]));
    }

    private static Ratio[] cross(Ratio[] u, Ratio[] v) {
        return new Ratio[] {u[1].times(v[2]).minus(u[2].times(v[1])),
                u[2].times(v[0]).minus(u[0].times(v[2])), u[0].times(v[1]).minus(u[1].times(v[0]))};
    }

    /** Vectors that span what is orthogonal to independent vectors. */
    private static List<Ratio[]> complement(List<Ratio[]> ways) {
        List<Ratio[]> found = new ArrayList<>();
        for (int k = 0; k < 3; k++) {
            Ratio[] unit = {Ratio.ZERO, Ratio.ZERO, Ratio.ZERO};
            unit[k] = Ratio.ONE;
            if (ways.isEmpty()) {
                found.add(unit);
            } else if (ways.size() == 1) {
                found.add(cross(ways.get(0), unit));
            }
        }
        if (ways.size() == 2) {
            found.add(cross(ways.get(0), ways.get(1)));
        }
        return found;
    }

    long bound(int set, int k, int up, int what) {
        if (strange(set) || out(k, 0, 2) || out(up, 0, 1) || out(what, 0, 2)) {
            return bad();
        }
        if (!meets(set)) {
            return no();
        }
        Ratio bound = Simplex.supremum(lines(set), k, up == 1 ? 1 : -1);
        if (bound == null) {
            return NONE;
        }
        if (what == 2) {
            return Simplex.solve(and(lines(set), value(k, bound))) != null ? 1 : 0;
        }
        return (what == 0 ? bound.top() : bound.bottom()).longValueExact();
    }

    private static boolean implied(List<Simplex.Line> lines, Simplex.Line l) {
        if (l.kind() == 2) {
            return Simplex.solve(and(lines, l.as(0))) == null
                    && Simplex.solve(and(lines, l.negated(0))) == null;
        }
        return Simplex.solve(and(lines, l.negated(1 - l.kind()))) == null;
    }

    int brings(int set, int i) {
        return strange(set) || none(i) ? bad() : implied(lines(set), line(i)) ? 1 : 0;
    }

    int spare(int set) {
        if (strange(set)) {
            return bad();
        }
        int found = 0;
        for (int i = 0; i < rows.size(); i++) {
            if (in(set, i) && implied(lines(set ^ 1 << i), line(i))) {
                found += 1 << i;
            }
        }
        return found;
    }

    /** Looks for a point of one solution set that is not in the other. */
    int same(int set, int other) {
        if (strange(set) || strange(other)) {
            return bad();
        }
        for (int i = 0; i < rows.size(); i++) {
            if (in(other, i) && !implied(lines(set), line(i))
                    || in(set, i) && !implied(lines(other), line(i))) {
                return 0;
            }
        }
        return 1;
    }

    private Ratio[] canonical(int set) {
        List<Simplex.Line> lines = lines(set);
        Ratio[] found = new Ratio[3];
        for (int k = 0; k < 3; k++) {
            found[k] = chosen(lines, k);
            lines = and(lines, value(k, found[k]));
        }
        return found;
    }

    private static Ratio chosen(List<Simplex.Line> lines, int k) {
        Ratio low = Simplex.supremum(lines, k, -1);
        Ratio high = Simplex.supremum(lines, k, 1);
        if (low != null && Simplex.solve(and(lines, value(k, low))) != null) {
            return low;
        }
        if (high != null && Simplex.solve(and(lines, value(k, high))) != null) {
            return high;
        }
        if (low != null && high != null) {
            return simplest(low, high);
        }
        if (low != null) {
            return new Ratio(low.floor().add(BigInteger.ONE), BigInteger.ONE);
        }
        if (high != null) {
            return new Ratio(high.negate().floor().add(BigInteger.ONE).negate(), BigInteger.ONE);
        }
        return Ratio.ZERO;
    }

    /** Tries all denominators; multiplyExact would tell if longs did not suffice. */
    private static Ratio simplest(Ratio low, Ratio high) {
        long a = low.top().longValueExact();
        long b = low.bottom().longValueExact();
        long c = high.top().longValueExact();
        long d = high.bottom().longValueExact();
        for (long bottom = 1;; bottom++) {
            long first = Math.floorDiv(Math.multiplyExact(a, bottom), b) + 1;
            long last = -Math.floorDiv(Math.multiplyExact(-c, bottom), d) - 1;
            if (first <= last) {
                return Ratio.of(first > 0 ? first : last < 0 ? last : 0, bottom);
            }
        }
    }

    long point(int set, int k, int what) {
        if (strange(set) || out(k, 0, 2) || out(what, 0, 1)) {
            return bad();
        }
        if (!meets(set)) {
            return no();
        }
        Ratio value = canonical(set)[k];
        return (what == 0 ? value.top() : value.bottom()).longValueExact();
    }

    // ---- unsatisfiable sets

    private int coreOf(int set) {
        int left = set;
        for (int i = rows.size() - 1; i >= 0; i--) {
            if (in(left, i) && !meets(left ^ 1 << i)) {
                left ^= 1 << i;
            }
        }
        return left;
    }

    int core(int set) {
        return strange(set) ? bad() : meets(set) ? no() : coreOf(set);
    }

    /** The multipliers of a core by elimination of its columns. */
    private int[] weights(int core) {
        List<Integer> members = new ArrayList<>();
        for (int i = 0; i < rows.size(); i++) {
            if (in(core, i)) {
                members.add(i);
            }
        }
        int n = members.size();
        Ratio[][] m = new Ratio[3][n];
        for (int k = 0; k < 3; k++) {
            for (int j = 0; j < n; j++) {
                m[k][j] = Ratio.of(rows.get(members.get(j))[k]);
            }
        }
        int[] pivotOf = new int[3];
        int rank = 0;
        int freeColumn = -1;
        for (int j = 0; j < n; j++) {
            int p = rank;
            while (p < 3 && m[p][j].signum() == 0) {
                p++;
            }
            if (p == 3) {
                if (freeColumn >= 0) {
                    throw new IllegalStateException("two dependences");
                }
                freeColumn = j;
                continue;
            }
            Ratio[] swap = m[p];
            m[p] = m[rank];
            m[rank] = swap;
            for (int k = 0; k < 3; k++) {
                if (k != rank) {
                    Ratio share = m[k][j].over(m[rank][j]);
                    for (int l = 0; l < n; l++) {
                        m[k][l] = m[k][l].minus(m[rank][l].times(share));
                    }
                }
            }
            pivotOf[rank++] = j;
        }
        Ratio[] values = new Ratio[n];
        values[freeColumn] = Ratio.ONE;
        for (int r = 0; r < rank; r++) {
            values[pivotOf[r]] = m[r][freeColumn].over(m[r][pivotOf[r]]).negate();
        }
        return wholeNumbers(members, values);
    }

    private int[] wholeNumbers(List<Integer> members, Ratio[] values) {
        BigInteger common = BigInteger.ONE;
        for (Ratio v : values) {
            common = common.multiply(v.bottom()).divide(common.gcd(v.bottom()));
        }
        BigInteger divisor = BigInteger.ZERO;
        for (Ratio v : values) {
            divisor = divisor.gcd(v.times(new Ratio(common, BigInteger.ONE)).top());
        }
        int[] found = new int[rows.size()];
        int sum = 0;
        boolean turn = false;
        boolean equal = true;
        for (int j = 0; j < values.length; j++) {
            int i = members.get(j);
            found[i] = values[j].times(new Ratio(common, divisor)).top().intValueExact();
            sum += found[i] * rows.get(i)[4];
            if (rows.get(i)[3] != 2) {
                equal = false;
                turn = found[i] < 0;
            }
        }
        if (equal ? sum > 0 : turn) {
            for (int i = 0; i < found.length; i++) {
                found[i] = -found[i];
            }
        }
        checkWeights(found);
        return found;
    }

    /** What the document says of multipliers must hold of those found. */
    private void checkWeights(int[] found) {
        int sum = 0;
        boolean strict = false;
        for (int i = 0; i < found.length; i++) {
            sum += found[i] * rows.get(i)[4];
            strict |= found[i] != 0 && rows.get(i)[3] == 0;
            if (rows.get(i)[3] != 2 && found[i] < 0) {
                throw new IllegalStateException("a negative multiplier");
            }
        }
        if (sum > 0 || sum == 0 && !strict) {
            throw new IllegalStateException("no contradiction");
        }
    }

    int times(int set, int i) {
        if (strange(set) || none(i)) {
            return bad();
        }
        return meets(set) ? no() : weights(coreOf(set))[i];
    }

    int between(int what) {
        if (out(what, 0, 4)) {
            return bad();
        }
        if (meets(all())) {
            return no();
        }
        int[] weights = weights(coreOf(all()));
        int sum = 0;
        boolean less = false;
        boolean equal = true;
        for (int i = 0; i < rows.size(); i++) {
            if (weights[i] != 0 && rows.get(i)[5] == 0) {
                sum += weights[i] * rows.get(i)[what];
                less |= rows.get(i)[3] == 0;
                equal &= rows.get(i)[3] == 2;
            }
        }
        return what != 3 ? sum : less ? 0 : equal ? 2 : 1;
    }

    // ---- sign vectors and formulas

    /** All sign vectors of a set, with the sign of constraint i at index i. */
    private List<int[]> vectors(int set) {
        List<int[]> found = new ArrayList<>();
        extend(set, 0, new int[12], new ArrayList<>(), found);
        return found;
    }

    private void extend(int set, int i, int[] signs, List<Simplex.Line> lines, List<int[]> found) {
        if (i == rows.size()) {
            found.add(signs.clone());
            return;
        }
        if (!in(set, i)) {
            extend(set, i + 1, signs, lines, found);
            return;
        }
        for (int sign = -1; sign <= 1; sign++) {
            Simplex.Line more = sign < 0 ? line(i).as(0) : sign == 0 ? line(i).as(2) : line(i).negated(0);
            List<Simplex.Line> longer = and(lines, more);
            if (Simplex.solve(longer) != null) {
                signs[i] = sign;
                extend(set, i + 1, signs, longer, found);
            }
        }
    }

    int sides(int set) {
        return strange(set) || Integer.bitCount(set) > 5 ? bad() : vectors(set).size();
    }

    int formula(int what) {
        if (out(what, 0, 2)) {
            return bad();
        }
        SlowTexts.Formula read = SlowTexts.readFormula(text, rows.size());
        if (read.fault() >= 0) {
            return -10 - read.fault();
        }
        if (Integer.bitCount(read.set()) > 5) {
            return no();
        }
        if (what == 2) {
            return read.set();
        }
        int count = 0;
        for (int[] signs : vectors(read.set())) {
            boolean[] truths = new boolean[12];
            for (int i = 0; i < rows.size(); i++) {
                int kind = rows.get(i)[3];
                truths[i] = kind == 0 && signs[i] == -1 || kind == 1 && signs[i] != 1
                        || kind == 2 && signs[i] == 0;
            }
            if (what == 1 || SlowTexts.isTrue(read.postfix(), truths)) {
                count++;
            }
        }
        return count;
    }

    // ---- texts and states

    int type(int c) {
        if (out(c, 0, 127)) {
            return bad();
        }
        if (text.length() == 80) {
            return full();
        }
        text += (char) c;
        return text.length();
    }

    int clear() {
        int before = text.length();
        text = "";
        return before;
    }

    int reads() {
        List<int[]> read = new ArrayList<>();
        int fault = SlowTexts.readOrders(text, read);
        if (fault >= 0) {
            return -10 - fault;
        }
        if (rows.size() + read.size() > 12) {
            return full();
        }
        List<int[]> next = new ArrayList<>(rows);
        next.addAll(read);
        change(next);
        return read.size();
    }

    int shown(int i, int j) {
        if (none(i) || j < 0) {
            return bad();
        }
        String shown = SlowTexts.show(rows.get(i));
        return j < shown.length() ? shown.charAt(j) : NONE;
    }

    int back() {
        if (past.isEmpty()) {
            return no();
        }
        rows = past.removeLast();
        return past.size();
    }

    private int count(int what) {
        return what < 3 ? counts[what] : what == 3 ? text.length() : what == 4 ? rows.size() : past.size();
    }

    int told(int what) {
        return out(what, 0, 5) ? bad() : count(what);
    }

    long digest() {
        List<Long> values = new ArrayList<>();
        for (int what = 0; what < 6; what++) {
            values.add((long) count(what));
        }
        for (int[] r : rows) {
            for (int v : r) {
                values.add((long) v);
            }
        }
        if (meets(all())) {
            values.add(1L);
            values.add((long) dimensionOf(lines(all())));
            for (Ratio v : canonical(all())) {
                values.add(v.top().longValueExact());
                values.add(v.bottom().longValueExact());
            }
        } else {
            values.add(0L);
            int core = coreOf(all());
            values.add((long) core);
            for (int w : weights(core)) {
                values.add((long) w);
            }
        }
        long h = 2341;
        for (long v : values) {
            h = 31 * h + v;
        }
        return h;
    }
}
