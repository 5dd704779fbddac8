/** The sentences of "Constraints" and "The canonical solution" that name a boundary case. */
public final class SetEdgesTest {
    private static final int NONE = RowsMeet.NONE, BAD = RowsMeet.BAD, NO = RowsMeet.NO, FULL = RowsMeet.FULL;
    private static final Check CHECK = new Check("SetEdgesTest");

    public static void main(String[] args) {
        constraintsHoldAtTheirEdge();
        allCoefficientsMayBeZero();
        emptySet();
        unsatisfiableSetImpliesAll();
        unsatisfiableSetHasNoSolution();
        dimensionsFromZeroToThree();
        boundsThatDoNotExist();
        boundsThatAreAttainedOrNot();
        boundsInLowestTerms();
        redundantOnes();
        sameSolutionSets();
        twelveConstraints();
        twelveConstraintsThatAllMix();
        questionsDoNotDisturbEachOther();
        CHECK.end();
    }

    private static int every(RowsMeet x) {
        return (1 << x.told(4)) - 1;
    }

    /** "less than d (kind less), at most d (kind most), or equal to d (kind same)". */
    private static void constraintsHoldAtTheirEdge() {
        // Row 0 fixes x; rows 1 to 3 ask for x < 3, x <= 3 and x = 3, and -3 for the other way round.
        int[][] holds = {{2, 1, 1, 0}, {3, 0, 1, 1}, {4, 0, 0, 0}};
        for (int[] h : holds) {
            RowsMeet x = Check.with("x=" + h[0] + ";x<3;x<=3;x=3;");
            for (int i = 1; i <= 3; i++) {
                CHECK.due(Check.shown(x, i) + " at " + h[0], x.can(1 | 1 << i), h[i]);
                CHECK.due(Check.shown(x, 0) + " brings " + Check.shown(x, i), x.brings(1, i), h[i]);
            }
            RowsMeet y = Check.with("-2y+z=-" + h[0] + ";-2y+z<-3;-2y+z<=-3;-2y+z=-3;");
            int[] turned = {0, h[0] > 3 ? 1 : 0, h[0] >= 3 ? 1 : 0, h[0] == 3 ? 1 : 0};
            for (int i = 1; i <= 3; i++) {
                CHECK.due(Check.shown(y, i) + " at -" + h[0], y.can(1 | 1 << i), turned[i]);
            }
        }
    }

    /** "three coefficients ... (all may be 0)". */
    private static void allCoefficientsMayBeZero() {
        for (int kind = 0; kind <= 2; kind++) {
            for (int d = -1; d <= 1; d++) {
                RowsMeet x = new RowsMeet();
                x.row(0, 0, 0, kind, d, 0);
                boolean holds = kind == 0 ? 0 < d : kind == 1 ? 0 <= d : 0 == d;
                String name = Check.shown(x, 0);
                CHECK.due("can " + name, x.can(1), holds ? 1 : 0);
                CHECK.due("dimension of " + name, x.dimension(1), holds ? 3 : NO);
                CHECK.due("brings " + name, x.brings(0, 0), holds ? 1 : 0);
                CHECK.due("spare of " + name, x.spare(1), holds ? 1 : 0);
                CHECK.due("same as nothing: " + name, x.same(1, 0), holds ? 1 : 0);
                CHECK.due("core of " + name, x.core(1), holds ? NO : 1);
                CHECK.due("times of " + name, x.times(1, 0), holds ? NO : kind == 2 && d > 0 ? -1 : 1);
                CHECK.due("sides of " + name, x.sides(1), 1);
                CHECK.due("formula of " + name, Check.formula(x, "0", 0), holds ? 1 : 0);
            }
        }
    }

    /** "A set of constraints ... may be empty." */
    private static void emptySet() {
        RowsMeet[] objects = {new RowsMeet(), Check.with("x<0;-x<0;0<0;"), Check.with("x<1;".repeat(12))};
        for (RowsMeet x : objects) {
            String name = " of the empty set, " + x.told(4) + " constraints";
            CHECK.due("can" + name, x.can(0), 1);
            CHECK.due("dimension" + name, x.dimension(0), 3);
            CHECK.due("spare" + name, x.spare(0), 0);
            CHECK.due("same" + name, x.same(0, 0), 1);
            CHECK.due("sides" + name, x.sides(0), 1);
            CHECK.due("core" + name, x.core(0), NO);
            for (int k = 0; k <= 2; k++) {
                CHECK.due("point" + name, x.point(0, k, 0), 0);
                CHECK.due("point" + name, x.point(0, k, 1), 1);
                for (int n = 0; n < 6; n++) {
                    CHECK.due("bound" + name, x.bound(0, k, n % 2, n / 2), NONE);
                }
            }
            for (int i = 0; i < x.told(4); i++) {
                CHECK.due("brings" + name, x.brings(0, i), 0);
                CHECK.due("times" + name, x.times(0, i), NO);
            }
        }
        CHECK.due("between without constraints", new RowsMeet().between(0), NO);
    }

    /** "an unsatisfiable set implies every constraint". */
    private static void unsatisfiableSetImpliesAll() {
        RowsMeet x = Check.with("x<0;-x<=0;y<-50;y=7;0<0;0=1;z<=3;");
        for (int i = 0; i < 7; i++) {
            CHECK.due("x<0, x>=0 brings " + Check.shown(x, i), x.brings(3, i), 1);
            CHECK.due("0<0 brings " + Check.shown(x, i), x.brings(16, i), 1);
        }
        CHECK.due("what is left is unsatisfiable, so all are redundant", x.spare(3 | 16 | 64), 3 | 16 | 64);
        CHECK.due("two unsatisfiable sets", x.same(3, 32), 1);
        CHECK.due("an unsatisfiable set and one that is not", x.same(3, 1), 0);
        CHECK.due("one that is satisfiable and one that is not", x.same(1, 3), 0);
    }

    /** NO where a satisfiable set is asked for; can() itself answers 0 and counts nothing. */
    private static void unsatisfiableSetHasNoSolution() {
        RowsMeet x = Check.with("x<0;-x<=0;");
        CHECK.due("can", x.can(3), 0);
        CHECK.due("can is not counted", x.told(1), 0);
        CHECK.due("dimension", x.dimension(3), NO);
        for (int k = 0; k <= 2; k++) {
            CHECK.due("bound", x.bound(3, k, 0, 0), NO);
            CHECK.due("bound", x.bound(3, k, 1, 2), NO);
            CHECK.due("point", x.point(3, k, 0), NO);
            CHECK.due("point", x.point(3, k, 1), NO);
        }
        CHECK.due("told(1)", x.told(1), 13);
        RowsMeet y = Check.with("x<=0;-x<=0;");
        CHECK.due("at most and at least may meet", y.can(3), 1);
        y.sets(1, 1, -1);
        CHECK.due("one more and they do not", y.can(3), 0);
    }

    /** "the dimension of the smallest affine space that contains the solution set, 0 to 3". */
    private static void dimensionsFromZeroToThree() {
        Object[][] cases = {
            {"x<=1;-x<=0;y<=1;-y<=0;z<=1;-z<=0;", 3}, {"x<=0;-x<=0;y<=1;-y<=0;z<=1;-z<=0;", 2},
            {"x<=0;-x<=0;y<=0;-y<=0;z<=1;-z<=0;", 1}, {"x<=0;-x<=0;y<=0;-y<=0;z<=0;-z<=0;", 0},
            {"x+y+z<=-50;-x<=0;-y<=0;-z<=50;", 0}, {"x+y+z<=0;-x<=0;-y<=0;-z<=1;", 3},
            {"5x=1;4y=1;3z=1;", 0}, {"x=0;y=0;z<0;", 1}, {"x=0;y<0;z<0;", 2}, {"x<0;y<0;z<0;", 3}};
        for (Object[] c : cases) {
            RowsMeet x = Check.with((String) c[0]);
            CHECK.due("dimension of " + c[0], x.dimension(every(x)), (Integer) c[1]);
        }
    }

    private static final String[] ORDERS = {"xyz", "xzy", "yxz", "yzx", "zxy", "zyx"};

    /** Checks a bound, and that it is the same however the variables are named. */
    private static void bound(String text, int k, int up, long... want) {
        for (String names : ORDERS) {
            StringBuilder named = new StringBuilder();
            for (char c : text.toCharArray()) {
                named.append(c >= 'x' && c <= 'z' ? names.charAt(c - 'x') : c);
            }
            RowsMeet x = Check.with(named.toString());
            for (int what = 0; what <= 2; what++) {
                CHECK.due("bound(" + names.charAt(k) + ", " + up + ", " + what + ") of " + named,
                        x.bound(every(x), names.charAt(k) - 'x', up, what), want.length == 1 ? want[0] : want[what]);
            }
        }
    }

    /** "NONE if there is no such bound". */
    private static void boundsThatDoNotExist() {
        bound("x<1;", 0, 0, NONE);
        bound("x<1;", 1, 0, NONE);
        bound("x<1;", 1, 1, NONE);
        bound("-z<1;", 2, 1, NONE);
        bound("x+y<=0;", 0, 1, NONE);
        bound("x+y=0;", 0, 1, NONE);
        bound("x-y=0;y<=3;", 0, 0, NONE);
        bound("0<=0;", 2, 1, NONE);
        // The others keep x from growing only one way.
        bound("x-y<=0;y-z<=0;z<=7;", 0, 0, NONE);
        bound("x-y<=0;y-z<=0;z<=7;", 0, 1, 7, 1, 1);
    }

    /** "a bound is attained if the variable has this value at a point of the solution set". */
    private static void boundsThatAreAttainedOrNot() {
        bound("x<=1;", 0, 1, 1, 1, 1);
        bound("x<1;", 0, 1, 1, 1, 0);
        bound("x=1;", 0, 1, 1, 1, 1);
        bound("x=1;", 0, 0, 1, 1, 1);
        bound("x<=1;x<1;", 0, 1, 1, 1, 0);
        bound("x<1;x<=1;", 0, 1, 1, 1, 0);
        bound("-x<=1;-x<1;", 0, 0, -1, 1, 0);
        // The bound is the sum of two rows: attained only if both are at most.
        bound("x-y<=1;y<=1;", 0, 1, 2, 1, 1);
        bound("x-y<1;y<=1;", 0, 1, 2, 1, 0);
        bound("x-y<=1;y<1;", 0, 1, 2, 1, 0);
        bound("x-y=1;y<1;", 0, 1, 2, 1, 0);
        bound("x-y=1;y<=1;", 0, 1, 2, 1, 1);
        // The only point with this value, and the same point cut away.
        bound("x+y+z<=1;-y<=0;-z<=0;", 0, 1, 1, 1, 1);
        bound("x+y+z<=1;-y<=0;-z<=0;y-z<0;", 0, 1, 1, 1, 0);
        bound("x+y+z<=1;-y<=0;-z<=0;y-z<=0;", 0, 1, 1, 1, 1);
        // A strict row that touches the top edge at one end leaves the rest of it.
        bound("x<=1;-y<=0;y<=1;x+y<2;", 0, 1, 1, 1, 1);
    }

    /** "the denominator (above 0, in lowest terms)". */
    private static void boundsInLowestTerms() {
        bound("4x<=6;", 0, 1, 3, 2, 1);
        bound("4x<=-6;", 0, 1, -3, 2, 1);
        bound("-4x<=-6;", 0, 0, 3, 2, 1);
        bound("-4x<=6;", 0, 0, -3, 2, 1);
        bound("5x<0;", 0, 1, 0, 1, 0);
        bound("-5x<0;", 0, 0, 0, 1, 0);
        bound("x<=50;", 0, 1, 50, 1, 1);
        bound("-x<=50;", 0, 0, -50, 1, 1);
        bound("5x-y=0;5y-z=0;5z=1;", 0, 1, 1, 125, 1);
        bound("x-5y=50;y-5z=50;z<=50;", 0, 1, 1550, 1, 1);
        bound("-x+5y<=50;-y+5z<=50;-z<=50;", 0, 0, -1550, 1, 1);
        // Cramer's rule: the determinants are 500 and -4955.
        bound("5x-5y-5z=50;-5x-5y-4z=50;-5x+5y-5z=-49;", 1, 1, -991, 100, 1);
        bound("-5x+4y-5z=50;-5x-5y-4z=50;-5x+5y+5z=49;", 0, 0, -4509, 455, 1);
    }

    /** "those that are implied by the other constraints of the set". */
    private static void redundantOnes() {
        Object[][] cases = {{"x<1;", 0}, {"0<1;", 1}, {"x<1;x<1;", 3}, {"x<1;x<=1;", 2}, {"x<=1;x<1;", 1},
            {"x<1;x<2;", 2}, {"x=1;x<=1;", 2}, {"x=1;x<1;", 0}, {"x<=1;-x<=-1;x=1;", 7}, {"x<=1;-x<=-1;", 0},
            {"x<1;y<1;x+y<2;", 4}, {"x<1;y<1;x+y<=2;", 4}, {"x<=1;y<=1;x+y<2;", 0}, {"x<=1;y<1;x+y<2;", 4}};
        for (Object[] c : cases) {
            RowsMeet x = Check.with((String) c[0]);
            CHECK.due("spare of " + c[0], x.spare(every(x)), (Integer) c[1]);
        }
        RowsMeet x = Check.with("x<1;x<1;x<1;");
        CHECK.due("a constraint alone is not implied by itself", x.spare(2), 0);
        CHECK.due("what is outside the set does not count", x.spare(5), 5);
    }

    private static void sameSolutionSets() {
        RowsMeet x = Check.with("x<1;2x<2;x<=1;x=1;-x<=-1;-x<-1;");
        int[][] cases = {{1, 1, 1}, {1, 2, 1}, {3, 1, 1}, {1, 4, 0}, {4, 1, 0}, {5, 1, 1}, {8, 4 + 16, 1}, {8, 1 + 16, 0},
            {1 + 16, 4 + 32, 1}, {8 + 1, 8 + 32, 1}, {0, 1, 0}, {1, 0, 0}, {63, 1 + 32, 1}};
        for (int[] c : cases) {
            CHECK.due("same(" + c[0] + ", " + c[1] + ")", x.same(c[0], c[1]), c[2]);
            CHECK.due("same(" + c[1] + ", " + c[0] + ")", x.same(c[1], c[0]), c[2]);
        }
    }

    /** "There are at most 12 constraints": every one of them counts, the first and the last too. */
    private static void twelveConstraints() {
        for (int i = 0; i < 12; i++) {
            RowsMeet x = new RowsMeet();
            for (int n = 0; n < 12; n++) {
                CHECK.due("row " + n, x.row(n % 3 == 0 ? 1 : 0, n % 3 == 1 ? 1 : 0, n % 3 == 2 ? 1 : 0, 0, 30 + n, 0), n);
            }
            CHECK.due("a thirteenth", x.row(1, 0, 0, 0, 0, 0), FULL);
            CHECK.due("row i is made the lowest", x.sets(i, 1, -7), 30 + i);
            int k = i % 3;
            CHECK.due("bound by row " + i, x.bound(4095, k, 1, 0), -7);
            CHECK.due("bound without row " + i, x.bound(4095 & ~(1 << i), k, 1, 0), 30 + (i < 3 ? k + 3 : k));
            CHECK.due("point by row " + i, x.point(4095, k, 0), -8);
            CHECK.due("implied by row " + i, x.brings(4095, (i + 3) % 12), 1);
            CHECK.due("not redundant: row " + i, x.spare(4095) >> i & 1, 0);
            CHECK.due("same without row " + i, x.same(4095, 4095 & ~(1 << i)), 0);
            x.sets(i, 0, 2);
            CHECK.due("dimension with row " + i, x.dimension(4095), 2);
            CHECK.due("dimension without row " + i, x.dimension(4095 & ~(1 << i)), 3);
            CHECK.due("sides with row " + i, x.sides(1 << i), 3);
            CHECK.due("set 4096", x.can(4096), BAD);
        }
    }

    private static RowsMeet made(int[][] rows) {
        RowsMeet x = new RowsMeet();
        for (int[] r : rows) {
            x.row(r[0], r[1], r[2], r[3], r[4], 0);
        }
        return x;
    }

    /**
     * Twelve constraints without a coefficient 0, half of them with a positive one for z: the most
     * rows that elimination can make, where the very last of them decides. Checked by simplex.
     */
    private static void twelveConstraintsThatAllMix() {
        RowsMeet last = made(new int[][] {{-1, -2, 1, 0, 7}, {-2, -1, -3, 1, 2}, {-2, 5, 3, 1, -10}, {4, -2, -5, 1, 11},
            {5, 2, 2, 0, 7}, {-4, 3, -4, 0, -15}, {-3, -5, 4, 0, 17}, {-1, -5, -3, 0, 12}, {-5, 5, 2, 0, -19},
            {-3, 4, -5, 0, -19}, {1, 3, 4, 0, -4}, {4, -4, -4, 1, 12}});
        CHECK.due("can, without a solution", last.can(4095), 0);
        CHECK.due("can without the last one", last.can(2047), 1);
        RowsMeet narrow = made(new int[][] {{-3, 5, 3, 1, 13}, {4, -2, -5, 0, 3}, {5, 3, 4, 0, 17}, {-3, -2, -3, 1, -5},
            {-1, -2, 2, 1, -3}, {-2, 4, -5, 1, 13}, {3, -4, 2, 1, -6}, {-1, -4, -5, 0, -10}, {-3, 4, 2, 1, 9},
            {-4, -5, -1, 0, -20}, {5, 1, 5, 0, 10}, {2, 5, -1, 1, 17}});
        CHECK.due("can, without a solution", narrow.can(4095), 0);
        CHECK.due("can without the last one", narrow.can(2047), 1);
        RowsMeet low = made(new int[][] {{3, 5, 3, 1, 20}, {-5, -5, -4, 1, -18}, {3, -2, 2, 0, 5}, {-1, -5, -5, 0, -18},
            {1, -2, 3, 1, 5}, {-1, 3, -1, 0, 7}, {2, -5, 5, 1, 6}, {-1, 5, -1, 0, 10}, {3, -4, 2, 1, -1},
            {-3, -3, -1, 1, -10}, {-4, 4, 3, 0, 13}, {-4, 1, -2, 1, -3}});
        CHECK.due("numerator of the lower bound", low.bound(4095, 0, 0, 0), 34);
        CHECK.due("denominator of the lower bound", low.bound(4095, 0, 0, 1), 81);
    }

    /** What one question leaves behind must not show in the next. */
    private static void questionsDoNotDisturbEachOther() {
        RowsMeet x = Check.with("x=1;y=1;z=1;x<0;-x<0;y<=5;");
        int[] sets = {7, 0, 3, 1, 8, 32, 48};
        int[] dimensions = {0, 3, 1, 2, 3, 3, 3};
        int[] sides = {27, 1, 9, 3, 3, 3, 9};
        for (int round = 0; round < 2; round++) {
            for (int n = 0; n < sets.length; n++) {
                CHECK.due("can(24)", x.can(24), 0);
                CHECK.due("dimension(" + sets[n] + ")", x.dimension(sets[n]), dimensions[n]);
                CHECK.due("core(63)", x.core(63), 9);
                CHECK.due("sides(" + sets[n] + ")", x.sides(sets[n]), sides[n]);
                CHECK.due("times(24, 3)", x.times(24, 3), 1);
                CHECK.due("can(" + sets[n] + ")", x.can(sets[n]), 1);
                CHECK.due("formula", Check.formula(x, "3|5", 0), 7);
            }
        }
    }
}
