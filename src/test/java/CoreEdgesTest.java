/** The sentences of "Unsatisfiable sets" that name a boundary case. */
public final class CoreEdgesTest {
    private static final int NO = RowsMeet.NO;
    private static final Check CHECK = new Check("CoreEdgesTest");

    public static void main(String[] args) {
        highestNumberFirst();
        coresOfOneToFour();
        coreOfTwelve();
        sumBelowZeroOrZeroWithLess();
        multipliersArePositive();
        multipliersWithoutCommonDivisor();
        signIsFreeIfAllAreSame();
        zeroOutsideTheCore();
        interpolantOfNoConstraints();
        interpolantKinds();
        interpolantOfFour();
        interpolantIsOfAllConstraints();
        satisfiableSetsAreRefused();
        CHECK.end();
    }

    private static int every(RowsMeet x) {
        return (1 << x.told(4)) - 1;
    }

    private static void core(String text, int want) {
        RowsMeet x = Check.with(text);
        CHECK.due("core of " + text, x.core(every(x)), want);
    }

    private static void times(String text, int... want) {
        RowsMeet x = Check.with(text);
        for (int i = 0; i < want.length; i++) {
            CHECK.due("times of " + i + " in " + text, x.times(every(x), i), want[i]);
        }
    }

    /** "the one with the highest number first". */
    private static void highestNumberFirst() {
        core("x<0;-x<0;-x<-1;-x<-2;", 3);
        core("-x<0;-x<-1;-x<-2;x<0;", 9);
        core("y<0;-y<0;x<0;-x<0;", 3);
        core("y<0;x<0;-x<0;-y<0;", 6);
        core("0<0;0<0;0<0;", 1);
        core("x<5;0<0;0<0;", 2);
        RowsMeet x = Check.with("x<0;-x<0;0<0;x<0;-x<0;");
        CHECK.due("core(31)", x.core(31), 3);
        CHECK.due("core(30)", x.core(30), 4);
        CHECK.due("core(27)", x.core(27), 3);
        CHECK.due("core(26)", x.core(26), 10);
        CHECK.due("core(24)", x.core(24), 24);
    }

    private static void coresOfOneToFour() {
        core("0<=-1;", 1);
        core("x<=1;-x<=-2;", 3);
        core("x<=1;y<=1;-x-y<=-3;", 7);
        core("x<=1;y<=1;z<=1;-x-y-z<=-4;", 15);
        core("x=1;y=1;z=1;x+y+z=4;", 15);
        // A constraint that could be missing is not in it.
        core("x<=1;y<=1;z<=1;-x-y<=-3;", 11);
    }

    /** Twelve constraints: the first and the last can be in the core, and any can be removed. */
    private static void coreOfTwelve() {
        for (int i = 0; i < 12; i++) {
            for (int j = i + 1; j < 12; j++) {
                RowsMeet y = made(i, j);
                CHECK.due("core with " + i + " and " + j, y.core(4095), 1 << i | 1 << j);
                CHECK.due("times of " + i, y.times(4095, i), 3);
                CHECK.due("times of " + j, y.times(4095, j), 2);
                CHECK.due("times of another", y.times(4095, i == 0 ? j == 11 ? 5 : 11 : 0), 0);
                CHECK.due("without " + i, y.core(4095 & ~(1 << i)), NO);
                CHECK.due("without " + j, y.core(4095 & ~(1 << j)), NO);
            }
        }
    }

    private static RowsMeet made(int i, int j) {
        RowsMeet x = new RowsMeet();
        for (int n = 0; n < 12; n++) {
            if (n == i) {
                x.row(2, 0, 0, 0, 1, 0);
            } else if (n == j) {
                x.row(-3, 0, 0, 0, -2, 0);
            } else {
                x.row(0, 1, 0, 0, n, 0);
            }
        }
        return x;
    }

    /** "below 0, or is 0 while at least one constraint of the core has the kind less". */
    private static void sumBelowZeroOrZeroWithLess() {
        String[] kinds = {"<", "<=", "="};
        for (int m = 0; m < 3; m++) {
            for (int n = 0; n < 3; n++) {
                for (int d = -1; d <= 1; d++) {
                    RowsMeet x = Check.with("x" + kinds[m] + "3;-x" + kinds[n] + (d - 3) + ";");
                    // x is at most 3 and at least 3 - d, so d is the sum of the right sides.
                    boolean equal = m == 2 && n == 2;
                    boolean meets = d > 0 && !equal || d == 0 && m > 0 && n > 0;
                    CHECK.due("core of " + Check.shown(x, 0) + ", " + Check.shown(x, 1), x.core(3), meets ? NO : 3);
                    int sign = equal && d > 0 ? -1 : 1;
                    CHECK.due("times(3, 0)", x.times(3, 0), meets ? NO : sign);
                    CHECK.due("times(3, 1)", x.times(3, 1), meets ? NO : sign);
                }
            }
        }
    }

    /** "positive for constraints of the kinds less and most". */
    private static void multipliersArePositive() {
        times("x=1;x<1;", -1, 1);
        times("x=2;x<=1;", -1, 1);
        times("-x=-1;x<1;", 1, 1);
        times("2x=2;-3x<-3;", 3, 2);
        times("-2x=-2;-3x<-3;", -3, 2);
        times("x+y=3;x<=1;y<=1;", -1, 1, 1);
        times("x<=1;x+y=3;y<=1;", 1, -1, 1);
        times("x<=1;y<=1;x+y=3;", 1, 1, -1);
        times("x-y=1;y-z=1;x-z<=1;", -1, -1, 1);
    }

    private static void multipliersWithoutCommonDivisor() {
        times("2x<0;-2x<0;", 1, 1);
        times("4x<0;-2x<0;", 1, 2);
        times("5x<0;-5x<0;", 1, 1);
        times("4x<0;4y<0;-2x-2y<0;", 1, 1, 2);
        times("2x<0;4y<0;-4x-2y<0;", 4, 1, 2);
        times("2x=2;4x=8;", 2, -1);
        times("0<0;", 1);
        times("0<=-50;", 1);
        times("5x<0;-4x<0;", 4, 5);
    }

    /** "if all constraints of the core have the kind same, ... must be below 0". */
    private static void signIsFreeIfAllAreSame() {
        times("0=1;", -1);
        times("0=-1;", 1);
        times("0=50;", -1);
        times("x=1;x=2;", 1, -1);
        times("x=2;x=1;", -1, 1);
        times("-x=1;x=2;", -1, -1);
        times("-x=1;x=-2;", 1, 1);
        times("x=1;y=1;x+y=3;", 1, 1, -1);
        times("x=1;y=1;x+y=1;", -1, -1, 1);
        times("x=1;y=1;z=1;x+y+z=4;", 1, 1, 1, -1);
        times("x=1;y=1;z=1;x+y+z=2;", -1, -1, -1, 1);
    }

    /** "0 if the constraint is not in the core". */
    private static void zeroOutsideTheCore() {
        RowsMeet x = Check.with("x<0;-x<0;y<0;-y<0;");
        int[][] cases = {{15, 0, 1}, {15, 1, 1}, {15, 2, 0}, {15, 3, 0}, {12, 0, 0}, {12, 2, 1}, {13, 0, 0}, {13, 3, 1},
            {3, 2, 0}, {3, 3, 0}};
        for (int[] c : cases) {
            CHECK.due("times(" + c[0] + ", " + c[1] + ")", x.times(c[0], c[1]), c[2]);
        }
    }

    private static RowsMeet parties(String text, int second) {
        RowsMeet x = Check.with(text);
        for (int i = 0; i < x.told(4); i++) {
            x.sets(i, 2, second >> i & 1);
        }
        return x;
    }

    private static void between(String text, int second, int... want) {
        RowsMeet x = parties(text, second);
        for (int what = 0; what <= 4; what++) {
            CHECK.due("between(" + what + ") of " + text + " with " + second, x.between(what), want[what]);
        }
    }

    /** "(or if there are none of them)". */
    private static void interpolantOfNoConstraints() {
        between("x<0;-x<0;", 3, 0, 0, 0, 2, 0);
        between("0<0;", 1, 0, 0, 0, 2, 0);
        // Party 0 has a constraint, but it is not in the core.
        between("x<0;-x<0;y<3;", 3, 0, 0, 0, 2, 0);
    }

    /** "less if one of these ... ; otherwise same if all of them ... ; otherwise most". */
    private static void interpolantKinds() {
        String[] kinds = {"<", "<=", "="};
        int[][] want = {{0, 0, 0}, {0, 1, 1}, {0, 1, 2}};
        for (int m = 0; m < 3; m++) {
            for (int n = 0; n < 3; n++) {
                for (int third = 0; third < 3; third++) {
                    String text = "x" + kinds[m] + "1;y" + kinds[n] + "1;-x-y" + kinds[third] + "-3;";
                    CHECK.due("kind of " + text, parties(text, 4).between(3), want[m][n]);
                    CHECK.due("kind of " + text, parties(text, 3).between(3), third);
                }
            }
        }
        between("x<1;y<=1;-x-y=-3;", 4, 1, 1, 0, 0, 2);
        between("x<1;y<=1;-x-y=-3;", 5, 0, 1, 0, 1, 1);
        between("x<1;y<=1;-x-y=-3;", 3, -1, -1, 0, 2, -3);
        between("x<1;y<=1;-x-y=-3;", 0, 0, 0, 0, 0, -1);
    }

    /** A core of four, and what is in it of each party. */
    private static void interpolantOfFour() {
        String text = "2x<=1;y<=1;z<1;-x-y-z<=-4;y<9;";
        between(text, 0, 0, 0, 0, 0, -3);
        between(text, 8, 2, 2, 2, 0, 5);
        between(text, 12, 2, 2, 0, 1, 3);
        between(text, 7, -2, -2, -2, 1, -8);
        between(text, 11, 0, 0, 2, 0, 2);
        between(text, 15, 0, 0, 0, 2, 0);
        between(text, 31, 0, 0, 0, 2, 0);
    }

    private static void interpolantIsOfAllConstraints() {
        RowsMeet x = Check.with("x<0;y<5;-x<0;");
        CHECK.due("between(4)", x.between(4), 0);
        CHECK.due("between(3)", x.between(3), 0);
        x.sets(2, 0, 1);
        x.sets(0, 2, 1);
        CHECK.due("between(0)", x.between(0), -1);
        CHECK.due("between(3)", x.between(3), 1);
        x.drops(0);
        CHECK.due("satisfiable now", x.between(0), NO);
        x.back();
        CHECK.due("as before", x.between(0), -1);
        RowsMeet last = Check.with("0<1;".repeat(11));
        CHECK.due("satisfiable", last.between(4), NO);
        last.row(0, 0, 0, 2, 50, 0);
        CHECK.due("the twelfth constraint alone", last.between(4), -50);
        CHECK.due("its kind", last.between(3), 2);
    }

    private static void satisfiableSetsAreRefused() {
        RowsMeet x = Check.with("x<=0;-x<=0;");
        CHECK.due("core", x.core(3), NO);
        CHECK.due("times", x.times(3, 0), NO);
        for (int what = 0; what <= 4; what++) {
            CHECK.due("between", x.between(what), NO);
        }
        CHECK.due("told(1)", x.told(1), 7);
    }
}
