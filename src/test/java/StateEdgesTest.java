import java.util.ArrayList;
import java.util.Arrays;
import java.util.List;
import java.util.function.Supplier;
import java.util.function.ToLongFunction;

/** The sentences of "States and error codes", and those of the promises that they are about. */
public final class StateEdgesTest {
    private static final int NONE = RowsMeet.NONE, BAD = RowsMeet.BAD, NO = RowsMeet.NO, FULL = RowsMeet.FULL;
    private static final Check CHECK = new Check("StateEdgesTest");

    public static void main(String[] args) {
        seventhCallThatCanBeUndone();
        callsThatCanBeUndone();
        callsThatChangeNothingCanBeUndone();
        latestOneFirst();
        backThenOn();
        otherCallsCannotBeUndone();
        badBeforeNo();
        badBeforeFull();
        faultBeforeNoAndFull();
        errorsBeforeNone();
        eachCodeIsCounted();
        refusedCallsChangeNothing();
        questionsChangeNothing();
        twelveConstraintsAndNoMore();
        eightyBytesAndNoMore();
        fiveConstraintsAndNoMore();
        fiveHundredAndTwelveCalls();
        CHECK.end();
    }

    /** All that can be asked of the constraints. */
    private static List<Long> rows(RowsMeet x) {
        List<Long> all = new ArrayList<>();
        for (int i = 0; i < x.told(4); i++) {
            for (int what = 0; what <= 5; what++) {
                all.add((long) x.of(i, what));
            }
        }
        return all;
    }

    private static void alike(String name, List<Long> got, List<Long> want) {
        CHECK.holds(name + ": " + got + ", due is " + want, got.equals(want));
    }

    /** "the latest 6 of them": the seventh call pushes the first one out. */
    private static void seventhCallThatCanBeUndone() {
        for (int calls = 0; calls <= 12; calls++) {
            RowsMeet x = new RowsMeet();
            for (int n = 0; n < calls; n++) {
                CHECK.due("row", x.row(0, 0, 1, 0, n, 0), n);
                CHECK.due("told(5)", x.told(5), Math.min(n + 1, 6));
            }
            int left = Math.min(calls, 6);
            for (int n = 1; n <= left; n++) {
                CHECK.due("back " + n + " of " + calls, x.back(), left - n);
                CHECK.due("told(4)", x.told(4), calls - n);
                CHECK.due("told(5)", x.told(5), left - n);
            }
            CHECK.due("back once more, after " + calls, x.back(), NO);
            CHECK.due("told(4)", x.told(4), Math.max(0, calls - 6));
            CHECK.due("told(1)", x.told(1), 1);
        }
    }

    private static RowsMeet some() {
        RowsMeet x = new RowsMeet();
        x.row(1, 2, 3, 0, 4, 1);
        x.row(-5, 0, 5, 2, -50, 0);
        x.row(0, 0, 0, 1, 50, 1);
        Check.write(x, "x<1;-2y<=-3;");
        return x;
    }

    /** "The successful calls of row(), drops(), sets() and reads() can be undone". */
    private static void callsThatCanBeUndone() {
        List<ToLongFunction<RowsMeet>> changes = List.of(x -> x.row(5, 5, 5, 1, 5, 1), x -> x.drops(0), x -> x.drops(1),
                x -> x.drops(2), x -> x.sets(0, 0, 2), x -> x.sets(1, 1, 50), x -> x.sets(2, 2, 0), x -> x.reads());
        for (int n = 0; n < changes.size(); n++) {
            RowsMeet x = some();
            List<Long> before = rows(x);
            CHECK.holds("change " + n + " is done", changes.get(n).applyAsLong(x) >= -50);
            CHECK.holds("change " + n + " changes the constraints", !rows(x).equals(before));
            CHECK.due("told(5)", x.told(5), 4);
            CHECK.due("back over change " + n, x.back(), 3);
            alike("as before change " + n, rows(x), before);
        }
    }

    /** "also if they change nothing". */
    private static void callsThatChangeNothingCanBeUndone() {
        RowsMeet x = some();
        for (int what = 0; what <= 2; what++) {
            int v = x.of(0, 3 + what);
            List<Long> before = rows(x);
            CHECK.due("sets what it is", x.sets(0, what, v), v);
            alike("sets what it is", rows(x), before);
            CHECK.due("told(5)", x.told(5), 4);
            CHECK.due("back", x.back(), 3);
            alike("back over nothing", rows(x), before);
        }
        for (int n = 0; n < 6; n++) {
            x.sets(0, 0, 0);
        }
        CHECK.due("told(5)", x.told(5), 6);
        for (int n = 5; n >= 0; n--) {
            CHECK.due("back", x.back(), n);
        }
        CHECK.due("the rows can be undone no more", x.back(), NO);
        CHECK.due("told(4)", x.told(4), 3);
    }

    /** "the latest one first", over calls of all four kinds. */
    private static void latestOneFirst() {
        RowsMeet x = some();
        List<List<Long>> states = new ArrayList<>();
        List<ToLongFunction<RowsMeet>> changes = List.of(y -> y.reads(), y -> y.drops(1), y -> y.sets(3, 1, 9),
                y -> y.row(0, 1, 0, 0, 0, 0), y -> y.drops(4), y -> y.sets(0, 0, 1), y -> y.reads());
        for (ToLongFunction<RowsMeet> change : changes) {
            states.add(rows(x));
            change.applyAsLong(x);
        }
        CHECK.due("told(4)", x.told(4), 6);
        for (int n = 6; n >= 1; n--) {
            CHECK.due("back", x.back(), n - 1);
            alike("as before change " + n, rows(x), states.get(n));
        }
        CHECK.due("back", x.back(), NO);
        alike("after the first change", rows(x), states.get(1));
    }

    private static void backThenOn() {
        RowsMeet x = new RowsMeet();
        for (int d = 0; d < 8; d++) {
            x.row(1, 0, 0, 0, d, 0);
        }
        x.back();
        x.back();
        x.back();
        CHECK.due("another row", x.row(0, 1, 0, 0, 40, 0), 5);
        CHECK.due("told(5)", x.told(5), 4);
        CHECK.due("of(5, 4)", x.of(5, 4), 40);
        CHECK.due("back", x.back(), 3);
        CHECK.due("back", x.back(), 2);
        CHECK.due("of(3, 4)", x.of(3, 4), 3);
        CHECK.due("of(4, 4)", x.of(4, 4), BAD);
        CHECK.due("back itself cannot be undone", x.told(5), 2);
    }

    private static void otherCallsCannotBeUndone() {
        RowsMeet x = some();
        x.type('?');
        x.clear();
        x.type('x');
        CHECK.due("reads with a fault", x.reads(), -11);
        CHECK.due("formula with a fault", x.formula(0), -10);
        x.digest();
        CHECK.due("told(5)", x.told(5), 3);
        CHECK.due("back", x.back(), 2);
        CHECK.due("the last row is gone", x.told(4), 2);
        CHECK.due("the text stays", x.told(3), 1);
    }

    /** A call that could answer several codes: the first of BAD, NO, FULL; only that is counted. */
    private static void order(String name, RowsMeet x, ToLongFunction<RowsMeet> call, long want) {
        int[] before = {x.told(0), x.told(1), x.told(2)};
        CHECK.due(name, call.applyAsLong(x), want);
        int[] codes = {BAD, NO, FULL};
        for (int what = 0; what <= 2; what++) {
            CHECK.due(name + ": told(" + what + ")", x.told(what), before[what] + (codes[what] == want ? 1 : 0));
        }
    }

    private static void badBeforeNo() {
        RowsMeet x = Check.with("x<0;-x<0;");
        order("dimension", x, y -> y.dimension(7), BAD);
        order("bound", x, y -> y.bound(7, 0, 0, 0), BAD);
        order("bound", x, y -> y.bound(3, 3, 0, 0), BAD);
        order("bound", x, y -> y.bound(3, 0, 2, 0), BAD);
        order("bound", x, y -> y.bound(3, 0, 0, 3), BAD);
        order("point", x, y -> y.point(7, 0, 0), BAD);
        order("point", x, y -> y.point(3, 3, 0), BAD);
        order("point", x, y -> y.point(3, 0, 2), BAD);
        order("core", x, y -> y.core(4), BAD);
        order("times", x, y -> y.times(4, 0), BAD);
        order("times", x, y -> y.times(1, 2), BAD);
        order("times", x, y -> y.times(4, 2), BAD);
        x.drops(1);
        order("between", x, y -> y.between(5), BAD);
        order("between", x, y -> y.between(4), NO);
        RowsMeet six = Check.with("x<1;x<2;x<3;x<4;x<5;x<6;");
        Check.write(six, "0&1&2&3&4&5");
        order("formula", six, y -> y.formula(3), BAD);
        order("formula", six, y -> y.formula(-1), BAD);
        order("formula", six, y -> y.formula(2), NO);
        order("sides", six, y -> y.sides(127), BAD);
    }

    private static void badBeforeFull() {
        RowsMeet x = Check.with("x<1;".repeat(12));
        int[][] wrong = {{6, 0, 0, 0, 0, 0}, {0, -6, 0, 0, 0, 0}, {0, 0, 6, 0, 0, 0}, {0, 0, 0, 3, 0, 0},
            {0, 0, 0, 0, 51, 0}, {0, 0, 0, 0, 0, 2}};
        for (int[] w : wrong) {
            order("row" + Arrays.toString(w), x, y -> y.row(w[0], w[1], w[2], w[3], w[4], w[5]), BAD);
        }
        order("row", x, y -> y.row(0, 0, 0, 0, 0, 0), FULL);
        Check.write(x, " ".repeat(80));
        order("type", x, y -> y.type(128), BAD);
        order("type", x, y -> y.type(-1), BAD);
        order("type", x, y -> y.type(0), FULL);
    }

    /** A fault comes where the promise names it: behind BAD, before NO and FULL. */
    private static void faultBeforeNoAndFull() {
        RowsMeet six = Check.with("x<1;x<2;x<3;x<4;x<5;x<6;");
        Check.write(six, "0&1&2&3&4&5&6");
        order("formula", six, y -> y.formula(3), BAD);
        order("formula", six, y -> y.formula(0), -22);
        order("formula", six, y -> y.formula(2), -22);
        RowsMeet x = Check.with("x<1;".repeat(12));
        Check.write(x, "x<1;y<");
        order("reads", x, y -> y.reads(), -16);
        Check.write(x, "x<1;y<1;");
        order("reads", x, y -> y.reads(), FULL);
        Check.write(x, "x<1;".repeat(19) + "x<1");
        order("reads", x, y -> y.reads(), -89);
    }

    /** "NONE ... is returned only if no error code applies". */
    private static void errorsBeforeNone() {
        RowsMeet x = Check.with("x<0;-x<0;");
        order("bound of the unsatisfiable, a free variable", x, y -> y.bound(3, 1, 0, 0), NO);
        order("bound, a free variable and no such property", x, y -> y.bound(1, 1, 0, 3), BAD);
        order("bound, no such set", x, y -> y.bound(5, 1, 0, 0), BAD);
        order("bound, a free variable", x, y -> y.bound(1, 1, 0, 0), NONE);
        order("shown, no such constraint", x, y -> y.shown(2, 99), BAD);
        order("shown, behind the end", x, y -> y.shown(1, 99), NONE);
        order("shown, before the beginning", x, y -> y.shown(1, -1), BAD);
    }

    private static final List<ToLongFunction<RowsMeet>> BADS = List.of(x -> x.row(6, 0, 0, 0, 0, 0), x -> x.drops(-1),
            x -> x.sets(-1, 0, 0), x -> x.of(0, 6), x -> x.can(-1), x -> x.dimension(-1), x -> x.bound(0, 3, 0, 0),
            x -> x.brings(0, -1), x -> x.spare(-1), x -> x.same(0, -1), x -> x.point(0, 0, 2), x -> x.core(-1),
            x -> x.times(0, -1), x -> x.between(5), x -> x.sides(-1), x -> x.formula(3), x -> x.type(128),
            x -> x.shown(-1, 0), x -> x.told(6));
    private static final List<ToLongFunction<RowsMeet>> NOES = List.of(x -> x.dimension(3), x -> x.bound(3, 0, 0, 0),
            x -> x.point(3, 0, 0), x -> x.core(0), x -> x.times(0, 0), x -> x.formula(0));
    private static final List<ToLongFunction<RowsMeet>> FULLS = List.of(x -> x.row(0, 0, 0, 0, 0, 0), x -> x.type(' '));

    /** Twelve constraints, the first two against each other, and a formula of 80 bytes with six of them. */
    private static RowsMeet packed() {
        RowsMeet x = Check.with("x<0;-x<0;y<=1;-y<=1;z=0;z<2;y<3;x<4;x<5;");
        Check.read(x, "-z<6;y<7;x-y<8;");
        for (int i = 0; i < 12; i += 3) {
            x.sets(i, 2, 1);
        }
        x.sets(11, 0, 2);
        x.sets(10, 1, -7);
        Check.write(x, "0&1&2&3&4&5" + " ".repeat(69));
        return x;
    }

    /** Eleven constraints that hold together, nothing else to undo than one, and two orders in 80 bytes. */
    private static RowsMeet spread() {
        RowsMeet x = Check.with("x<1;".repeat(11));
        Check.write(x, "2x-y<=3;" + " ".repeat(64) + "3y=-17; ");
        return x;
    }

    /** "the number of calls that have returned BAD ... NO ... FULL", whichever calls. */
    private static void eachCodeIsCounted() {
        RowsMeet x = packed();
        List<List<ToLongFunction<RowsMeet>>> calls = List.of(BADS, NOES, FULLS);
        int[] codes = {BAD, NO, FULL};
        for (int what = 0; what <= 2; what++) {
            for (int n = 0; n < calls.get(what).size(); n++) {
                order("call " + n + " of code " + codes[what], x, calls.get(what).get(n), codes[what]);
            }
        }
        RowsMeet y = spread();
        order("reads", y, z -> z.reads(), FULL);
        order("between", y, z -> z.between(0), NO);
        y.back();
        order("back", y, z -> z.back(), NO);
    }

    /** Property what of all constraints. */
    private static List<Long> column(RowsMeet x, int what) {
        List<Long> all = new ArrayList<>();
        for (int i = 0; i < x.told(4); i++) {
            all.add((long) x.of(i, what));
        }
        return all;
    }

    /** Answers that show the text, one property of the constraints, and all that can be undone. */
    private static List<Long> answers(RowsMeet x, int property) {
        List<Long> all = new ArrayList<>();
        for (int what = 3; what <= 5; what++) {
            all.add((long) x.told(what));
        }
        all.addAll(column(x, property));
        all.add((long) x.type(' '));
        for (int what = 0; what <= 2; what++) {
            all.add((long) x.formula(what));
        }
        all.add((long) x.drops(0));
        all.add((long) x.formula(2));
        all.add((long) x.reads());
        for (int n = 0; n < 8; n++) {
            all.addAll(column(x, property));
            all.add((long) x.back());
        }
        all.add((long) x.reads());
        all.addAll(column(x, property));
        all.add((long) x.clear());
        return all;
    }

    /** The object after a call has the same in it as one without it, but for the count. */
    private static void twins(String name, Supplier<RowsMeet> start, ToLongFunction<RowsMeet> call, long want) {
        int[] codes = {BAD, NO, FULL};
        for (int property = 0; property <= 5; property++) {
            RowsMeet with = start.get();
            RowsMeet without = start.get();
            CHECK.due(name, call.applyAsLong(with), want);
            for (int what = 0; what <= 2; what++) {
                CHECK.due(name + ": told(" + what + ")", with.told(what) - without.told(what), codes[what] == want ? 1 : 0);
            }
            alike(name, answers(with, property), answers(without, property));
        }
    }

    /** "A call that returns an error code, queries included, changes nothing, except that it is counted". */
    private static void refusedCallsChangeNothing() {
        for (ToLongFunction<RowsMeet> call : BADS) {
            twins("BAD, packed", StateEdgesTest::packed, call, BAD);
            twins("BAD, spread", StateEdgesTest::spread, call, BAD);
            twins("BAD, new", RowsMeet::new, call, BAD);
        }
        for (ToLongFunction<RowsMeet> call : NOES) {
            twins("NO, packed", StateEdgesTest::packed, call, NO);
        }
        for (ToLongFunction<RowsMeet> call : FULLS) {
            twins("FULL, packed", StateEdgesTest::packed, call, FULL);
        }
        twins("reads, spread", StateEdgesTest::spread, x -> x.reads(), FULL);
        twins("between, spread", StateEdgesTest::spread, x -> x.between(4), NO);
        twins("back, new", RowsMeet::new, x -> x.back(), NO);
        // A fault is no error code, but changes nothing either.
        twins("reads, packed", StateEdgesTest::packed, x -> x.reads(), -11);
        twins("formula, spread", StateEdgesTest::spread, x -> x.formula(0), -11);
    }

    /** Questions that are answered leave all as it is, the text that they read too. */
    private static void questionsChangeNothing() {
        List<ToLongFunction<RowsMeet>> questions = List.of(x -> x.of(0, 0), x -> x.can(0), x -> x.can(2047),
                x -> x.dimension(2044), x -> x.bound(2044, 0, 1, 0), x -> x.brings(0, 3), x -> x.spare(2047),
                x -> x.same(3, 5), x -> x.point(2044, 2, 1), x -> x.core(3), x -> x.times(3, 1), x -> x.between(3),
                x -> x.sides(31), x -> x.shown(3, 0), x -> x.shown(3, 99), x -> x.told(5), x -> x.digest());
        for (ToLongFunction<RowsMeet> call : questions) {
            twins("question", StateEdgesTest::packed, call, call.applyAsLong(packed()));
        }
        RowsMeet x = Check.with("x<1;y<1;");
        Check.write(x, "0|1");
        CHECK.due("formula", x.formula(0), 5);
        CHECK.due("formula again", x.formula(0), 5);
        CHECK.due("the text stays", x.clear(), 3);
        Check.write(x, "z<=1;");
        CHECK.due("reads", x.reads(), 1);
        CHECK.due("reads again", x.reads(), 1);
        CHECK.due("the text stays", x.clear(), 5);
        CHECK.due("of(3, 2)", x.of(3, 2), 1);
    }

    private static void twelveConstraintsAndNoMore() {
        RowsMeet x = new RowsMeet();
        for (int n = 0; n < 12; n++) {
            CHECK.due("row " + n, x.row(0, 0, 0, 0, n, 0), n);
        }
        CHECK.due("a thirteenth", x.row(0, 0, 0, 0, 0, 0), FULL);
        CHECK.due("drops(11)", x.drops(11), 11);
        CHECK.due("one that fits again", x.row(0, 0, 0, 0, 40, 0), 11);
        CHECK.due("of(11, 4)", x.of(11, 4), 40);
        CHECK.due("told(4)", x.told(4), 12);
        for (int have = 0; have <= 12; have++) {
            for (int more = 1; more <= 13; more++) {
                RowsMeet y = new RowsMeet();
                for (int n = 0; n < have; n++) {
                    y.row(1, 1, 1, 0, n, 1);
                }
                boolean fits = have + more <= 12;
                CHECK.due(more + " orders behind " + have, Check.read(y, "y=3;".repeat(more)), fits ? more : FULL);
                CHECK.due("told(4)", y.told(4), fits ? have + more : have);
                CHECK.due("told(5)", y.told(5), Math.min(6, fits ? have + 1 : have));
                CHECK.due("told(2)", y.told(2), fits ? 0 : 1);
            }
        }
    }

    private static void eightyBytesAndNoMore() {
        RowsMeet x = new RowsMeet();
        for (int n = 1; n <= 80; n++) {
            CHECK.due("byte " + n, x.type(n == 80 ? ';' : n < 78 ? ' ' : n == 78 ? '0' : '='), n);
        }
        CHECK.due("the 81st byte", x.type('5'), FULL);
        CHECK.due("the fault is at the 80th byte", x.reads(), -89);
        CHECK.due("clear", x.clear(), 80);
        CHECK.due("clear again", x.clear(), 0);
        CHECK.due("the text is empty", x.reads(), -10);
        CHECK.due("the text is empty", x.formula(1), -10);
        CHECK.due("type after clear", x.type('0'), 1);
        CHECK.due("what was there is gone", x.reads(), -11);
    }

    private static void fiveConstraintsAndNoMore() {
        for (int set = 0; set < 4096; set++) {
            int many = set;
            RowsMeet every = packed();
            if (Integer.bitCount(set) > 5) {
                order("sides(" + set + ")", every, y -> y.sides(many), BAD);
            } else {
                CHECK.holds("sides(" + set + ")", every.sides(set) > 0);
            }
        }
        RowsMeet x = Check.with("x<0;y<0;z<0;x+y+z<1;x+2y+3z<5;");
        for (int n = 5; n < 12; n++) {
            x.row(1, 1, 0, 0, n, 0);
        }
        // Five planes in general position: 10 points, 40 pieces of lines, 55 of planes, 26 of space.
        CHECK.due("sides of five planes", x.sides(31), 10 + 40 + 55 + 26);
        CHECK.due("sides of the last five", x.sides(31 << 7), 11);
        CHECK.due("six", x.sides(63), BAD);
        CHECK.due("all", x.sides(4095), BAD);
        Check.write(x, "11&10&9&8&7");
        CHECK.due("formula of five", x.formula(0), 1);
        CHECK.due("formula of five", x.formula(1), 11);
        CHECK.due("formula of five", x.formula(2), 31 << 7);
        Check.write(x, "11&10&9&8&7&7&11&!08|09");
        CHECK.due("five that occur more than once", x.formula(2), 31 << 7);
        Check.write(x, "0|1|2|3|4|5");
        for (int what = 0; what <= 2; what++) {
            CHECK.due("formula of six", x.formula(what), NO);
        }
        Check.write(x, "0|1|2|3|4|5|6|7|8|9|10|11");
        CHECK.due("formula of twelve", x.formula(2), NO);
        CHECK.due("told(1)", x.told(1), 4);
    }

    /** "An object is used for at most 512 calls": the last of them is answered as the first. */
    private static void fiveHundredAndTwelveCalls() {
        RowsMeet x = new RowsMeet();
        for (int n = 0; n < 509; n++) {
            CHECK.due("told(6), call " + n, x.told(6), BAD);
        }
        CHECK.due("row, the 510th call", x.row(1, 0, 0, 1, 3, 0), 0);
        CHECK.due("point, the 511th call", x.point(1, 0, 0), 3);
        CHECK.due("told(0), the 512th call", x.told(0), 509);
        RowsMeet y = new RowsMeet();
        y.row(0, 0, 0, 0, 0, 0);
        for (int n = 0; n < 510; n++) {
            CHECK.due("sets, call " + n, y.sets(0, 1, n % 51), n == 0 ? 0 : (n - 1) % 51);
        }
        CHECK.due("back, the 512th call", y.back(), 5);
    }
}
