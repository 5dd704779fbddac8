import java.util.function.Supplier;

/**
 * Each argument of each promise: the ends of its range are taken, one below and one above are BAD,
 * and so are the ends of int; a BAD call is counted once and as nothing else.
 */
public final class ArgumentEdgesTest {
    private static final int NONE = RowsMeet.NONE, BAD = RowsMeet.BAD;
    private static final Check CHECK = new Check("ArgumentEdgesTest");

    /** A call with its arguments. */
    private interface Call {
        long on(RowsMeet x, int... a);
    }

    public static void main(String[] args) {
        row();
        drops();
        sets();
        of();
        setsOfConstraints();
        setsOfTwelve();
        variablesAndProperties();
        constraintsOfQuestions();
        between();
        formula();
        type();
        shown();
        told();
        nothingExistsInANewObject();
        CHECK.end();
    }

    /** Three constraints that hold together, and their text. */
    private static RowsMeet three() {
        return Check.with("x<0;-x<1;y=2;");
    }

    /** Three constraints that do not hold together, and a text that is a formula. */
    private static RowsMeet against() {
        RowsMeet x = Check.with("x<0;-x<0;y=2;");
        Check.write(x, "0&1");
        return x;
    }

    private static RowsMeet twelve() {
        return Check.with("x<1;".repeat(12));
    }

    /** Argument n may be least to most where the others are as in good. */
    private static void range(String name, Supplier<RowsMeet> start, Call call, int n, int least, int most, int... good) {
        for (int v : new int[] {least, most}) {
            RowsMeet x = start.get();
            long got = call.on(x, with(good, n, v));
            CHECK.holds(name + ": argument " + n + " may be " + v, got != BAD);
            CHECK.due(name + ": no BAD is counted for argument " + n + " = " + v, x.told(0), 0);
        }
        for (int v : new int[] {least - 1, most + 1, Integer.MIN_VALUE, Integer.MAX_VALUE}) {
            refused(name, start.get(), call, with(good, n, v));
        }
    }

    private static int[] with(int[] good, int n, int v) {
        int[] a = good.clone();
        a[n] = v;
        return a;
    }

    private static void refused(String name, RowsMeet x, Call call, int... a) {
        String label = name + java.util.Arrays.toString(a);
        int[] before = {x.told(3), x.told(4), x.told(5)};
        CHECK.due(label, call.on(x, a), BAD);
        CHECK.due(label + " is counted", x.told(0), 1);
        CHECK.due(label + " is counted once", x.told(1) + x.told(2), 0);
        for (int what = 3; what <= 5; what++) {
            CHECK.due(label + " changes nothing", x.told(what), before[what - 3]);
        }
    }

    private static void row() {
        Call row = (x, a) -> x.row(a[0], a[1], a[2], a[3], a[4], a[5]);
        int[] least = {-5, -5, -5, 0, -50, 0};
        int[] most = {5, 5, 5, 2, 50, 1};
        for (int n = 0; n < 6; n++) {
            range("row", ArgumentEdgesTest::three, row, n, least[n], most[n], 1, 1, 1, 1, 1, 1);
        }
        for (int n = 0; n < 6; n++) {
            for (int v = least[n]; v <= most[n]; v++) {
                RowsMeet x = new RowsMeet();
                CHECK.due("row with argument " + n + " = " + v, row.on(x, with(new int[6], n, v)), 0);
                CHECK.due("of(0, " + n + ")", x.of(0, n), v);
            }
        }
    }

    private static void drops() {
        range("drops", ArgumentEdgesTest::three, (x, a) -> x.drops(a[0]), 0, 0, 2, 0);
        range("drops of twelve", ArgumentEdgesTest::twelve, (x, a) -> x.drops(a[0]), 0, 0, 11, 0);
    }

    private static void sets() {
        Call sets = (x, a) -> x.sets(a[0], a[1], a[2]);
        range("sets", ArgumentEdgesTest::three, sets, 0, 0, 2, 0, 0, 0);
        range("sets of twelve", ArgumentEdgesTest::twelve, sets, 0, 0, 11, 0, 0, 0);
        range("sets", ArgumentEdgesTest::three, sets, 1, 0, 2, 0, 0, 0);
        range("sets, the kind", ArgumentEdgesTest::three, sets, 2, 0, 2, 0, 0, 0);
        range("sets, the right side", ArgumentEdgesTest::three, sets, 2, -50, 50, 0, 1, 0);
        range("sets, the party", ArgumentEdgesTest::three, sets, 2, 0, 1, 0, 2, 0);
    }

    private static void of() {
        Call of = (x, a) -> x.of(a[0], a[1]);
        range("of", ArgumentEdgesTest::three, of, 0, 0, 2, 0, 0);
        range("of twelve", ArgumentEdgesTest::twelve, of, 0, 0, 11, 0, 0);
        range("of", ArgumentEdgesTest::three, of, 1, 0, 5, 0, 0);
    }

    /** The calls that have a set as their first argument; same() has two. */
    private static final Call[] WITH_SET = {
        (x, a) -> x.can(a[0]), (x, a) -> x.dimension(a[0]), (x, a) -> x.bound(a[0], 0, 0, 0),
        (x, a) -> x.brings(a[0], 0), (x, a) -> x.spare(a[0]), (x, a) -> x.same(a[0], 0),
        (x, a) -> x.same(0, a[0]), (x, a) -> x.point(a[0], 0, 0), (x, a) -> x.core(a[0]),
        (x, a) -> x.times(a[0], 0), (x, a) -> x.sides(a[0])};
    private static final String[] NAMES = {
        "can", "dimension", "bound", "brings", "spare", "same", "same, other", "point", "core", "times", "sides"};

    private static void setsOfConstraints() {
        for (int n = 0; n < WITH_SET.length; n++) {
            range(NAMES[n], ArgumentEdgesTest::three, WITH_SET[n], 0, 0, 7, 0);
            // Every single bit that stands for no constraint, alone and beside those that exist.
            for (int bit = 3; bit < 32; bit++) {
                refused(NAMES[n], three(), WITH_SET[n], 1 << bit);
                refused(NAMES[n], three(), WITH_SET[n], 1 << bit | 7);
            }
        }
    }

    private static void setsOfTwelve() {
        for (int n = 0; n < WITH_SET.length; n++) {
            boolean few = NAMES[n].equals("sides");
            for (int set : new int[] {1 << 11, few ? 0b111110000000 : 4095}) {
                RowsMeet x = twelve();
                CHECK.holds(NAMES[n] + " takes constraint 11", WITH_SET[n].on(x, set) != BAD);
                CHECK.due(NAMES[n] + ": no BAD is counted", x.told(0), 0);
            }
            for (int set : new int[] {1 << 12, 4097, 8191, 1 << 31, -1}) {
                refused(NAMES[n] + " of twelve", twelve(), WITH_SET[n], set);
            }
        }
    }

    private static void variablesAndProperties() {
        Call bound = (x, a) -> x.bound(a[0], a[1], a[2], a[3]);
        range("bound, the variable", ArgumentEdgesTest::three, bound, 1, 0, 2, 7, 0, 0, 0);
        range("bound, up", ArgumentEdgesTest::three, bound, 2, 0, 1, 7, 0, 0, 0);
        range("bound, what", ArgumentEdgesTest::three, bound, 3, 0, 2, 7, 0, 0, 0);
        Call point = (x, a) -> x.point(a[0], a[1], a[2]);
        range("point, the variable", ArgumentEdgesTest::three, point, 1, 0, 2, 7, 0, 0);
        range("point, what", ArgumentEdgesTest::three, point, 2, 0, 1, 7, 0, 0);
    }

    private static void constraintsOfQuestions() {
        range("brings", ArgumentEdgesTest::three, (x, a) -> x.brings(7, a[0]), 0, 0, 2, 0);
        range("brings of twelve", ArgumentEdgesTest::twelve, (x, a) -> x.brings(1, a[0]), 0, 0, 11, 0);
        range("times", ArgumentEdgesTest::against, (x, a) -> x.times(7, a[0]), 0, 0, 2, 0);
        range("times of a satisfiable set", ArgumentEdgesTest::three, (x, a) -> x.times(7, a[0]), 0, 0, 2, 0);
    }

    private static void between() {
        range("between", ArgumentEdgesTest::against, (x, a) -> x.between(a[0]), 0, 0, 4, 0);
    }

    private static void formula() {
        range("formula", ArgumentEdgesTest::against, (x, a) -> x.formula(a[0]), 0, 0, 2, 0);
    }

    private static void type() {
        range("type", ArgumentEdgesTest::three, (x, a) -> x.type(a[0]), 0, 0, 127, 0);
        RowsMeet x = new RowsMeet();
        for (int c = 0; c < 80; c++) {
            CHECK.due("type(" + c + ")", x.type(c), c + 1);
        }
        x.clear();
        for (int c = 80; c < 128; c++) {
            CHECK.due("type(" + c + ")", x.type(c), c - 79);
        }
    }

    private static void shown() {
        range("shown", ArgumentEdgesTest::three, (x, a) -> x.shown(a[0], 0), 0, 0, 2, 0);
        for (int j : new int[] {-1, Integer.MIN_VALUE}) {
            refused("shown", three(), (x, a) -> x.shown(a[0], a[1]), 0, j);
        }
        RowsMeet x = three();
        CHECK.due("shown(0, 0)", x.shown(0, 0), 'x');
        CHECK.due("shown(0, 2), the last byte", x.shown(0, 2), '0');
        CHECK.due("shown(0, 3), behind it", x.shown(0, 3), NONE);
        CHECK.due("shown(0, highest)", x.shown(0, Integer.MAX_VALUE), NONE);
        CHECK.due("NONE is not counted", x.told(0) + x.told(1) + x.told(2), 0);
    }

    private static void told() {
        range("told", ArgumentEdgesTest::three, (x, a) -> x.told(a[0]), 0, 0, 5, 0);
    }

    private static void nothingExistsInANewObject() {
        refused("drops", new RowsMeet(), (x, a) -> x.drops(a[0]), 0);
        refused("sets", new RowsMeet(), (x, a) -> x.sets(a[0], a[1], a[2]), 0, 0, 0);
        refused("of", new RowsMeet(), (x, a) -> x.of(a[0], a[1]), 0, 0);
        refused("brings", new RowsMeet(), (x, a) -> x.brings(a[0], a[1]), 0, 0);
        refused("times", new RowsMeet(), (x, a) -> x.times(a[0], a[1]), 0, 0);
        refused("shown", new RowsMeet(), (x, a) -> x.shown(a[0], a[1]), 0, 0);
        for (int n = 0; n < WITH_SET.length; n++) {
            refused(NAMES[n], new RowsMeet(), WITH_SET[n], 1);
            refused(NAMES[n], new RowsMeet(), WITH_SET[n], -1);
        }
    }
}
