/** Promises 6 to 12: satisfiable sets. */
public final class SolutionsTest {
    private static final int NONE = RowsMeet.NONE, BAD = RowsMeet.BAD, NO = RowsMeet.NO;
    private static final int[] STRANGE = {4, 7, 4096, 1 << 12, 1 << 30, -1, Integer.MIN_VALUE, Integer.MAX_VALUE};
    private static final Check CHECK = new Check("SolutionsTest");

    public static void main(String[] args) {
        can();
        dimension();
        bounds();
        boundErrors();
        brings();
        spare();
        same();
        points();
        pointBetween();
        pointErrors();
        strangeSets();
        CHECK.end();
    }

    private static int every(RowsMeet x) {
        return (1 << x.told(4)) - 1;
    }

    private static void can() {
        CHECK.due("the empty set", new RowsMeet().can(0), 1);
        String[] yes = {"x<0;-x<1;", "x<=0;-x<=0;", "0<1;", "0<=0;", "0=0;", "x=1;x<=1;", "x+y=1;x-y=0;z<0;",
            "x+y<=1;-x-y<=-1;", "x<1;y<1;z<1;-x-y-z<-2;", "5x+5y+5z<-50;", "2x=1;4x=2;",
            "0<=1;", "y<=1;-y<=0;z<=1;-z<=0;", "-z<=1;z<=1;-y<=1;y<=1;"};
        String[] not = {"x<0;-x<0;", "x<0;-x<=0;", "x<=0;-x<=-1;", "0<0;", "0<=-1;", "0=1;", "0=-1;", "x=1;x<1;",
            "x=1;x=2;", "x<=1;y<=1;z<=1;-x-y-z<-3;", "x<1;y<1;z<1;-x-y-z<=-3;", "x+y+z=1;x+y=0;z=0;",
            "-x<0;x<0;", "-y<0;y<0;", "-z<0;z<0;", "-x-z<0;-y<0;x+y+z<0;"};
        for (String text : yes) {
            RowsMeet x = Check.with(text);
            CHECK.due("can " + text, x.can(every(x)), 1);
            CHECK.due("can nothing of " + text, x.can(0), 1);
        }
        for (String text : not) {
            RowsMeet x = Check.with(text);
            CHECK.due("can " + text, x.can(every(x)), 0);
        }
    }

    private static void dimension() {
        Object[][] cases = {{"x<1;", 3}, {"0=0;", 3}, {"x=1;", 2}, {"x<=1;-x<=-1;", 2}, {"x=1;2x=2;", 2},
            {"x=1;y=1;", 1}, {"x=1;y=1;x+y=2;", 1}, {"x=1;y=1;z=1;", 0}, {"x+y<=0;-x<=0;-y<=0;", 1},
            {"x+y+z<=0;-x<=0;-y<=0;-z<=0;", 0}, {"x+y+z<=0;x-y=0;y-z=0;-x-y-z<=0;", 0},
            {"x+y+z<1;-x<0;-y<0;-z<0;", 3}, {"x<=1;-x<1;", 3}, {"0<=0;x<5;", 3},
            {"x+y=0;x-y=0;", 1}, {"x+z=0;x-z=0;", 1}, {"y+z=0;y-z=0;", 1}, {"2x+y=0;x+2y=0;", 1},
            {"2x+z=0;x+2z=0;", 1}, {"2y+z=0;y+2z=0;", 1}, {"x+y+z=0;2x+2y+2z=0;-x-y-z=0;", 2},
            {"2x+3y-z=0;x-y+2z=1;3x+2y+z=1;", 1}, {"2x+3y-z=0;x-y+2z=1;3x+2y+2z=1;", 0},
            {"x+2y+3z=1;4x+5y+5z=1;3x+3y+2z=0;", 1}, {"x=1;y=1;x-y=0;", 1}, {"z=1;y=1;z+y=2;", 1}};
        for (Object[] c : cases) {
            RowsMeet x = Check.with((String) c[0]);
            CHECK.due("dimension " + c[0], x.dimension(every(x)), (Integer) c[1]);
        }
        RowsMeet x = Check.with("x<0;-x<0;");
        CHECK.due("dimension of the unsatisfiable", x.dimension(3), NO);
        CHECK.due("dimension of the empty set", x.dimension(0), 3);
        CHECK.due("told(1)", x.told(1), 1);
    }

    /** Checks the three properties of a bound. */
    private static void bound(RowsMeet x, int k, int up, long[] want) {
        for (int what = 0; what <= 2; what++) {
            CHECK.due("bound(" + k + ", " + up + ", " + what + ")", x.bound(every(x), k, up, what), want[what]);
        }
    }

    private static void bounds() {
        long[] none = {NONE, NONE, NONE};
        RowsMeet x = Check.with("3x<7;-2x<=5;x+y=0;");
        bound(x, 0, 1, new long[] {7, 3, 0});
        bound(x, 0, 0, new long[] {-5, 2, 1});
        bound(x, 1, 1, new long[] {5, 2, 1});
        bound(x, 1, 0, new long[] {-7, 3, 0});
        bound(x, 2, 1, none);
        bound(x, 2, 0, none);
        RowsMeet lowestTerms = Check.with("4x<=6;-4x<=0;");
        bound(lowestTerms, 0, 1, new long[] {3, 2, 1});
        bound(lowestTerms, 0, 0, new long[] {0, 1, 1});
        RowsMeet both = Check.with("x<=1;x<1;");
        bound(both, 0, 1, new long[] {1, 1, 0});
        bound(both, 0, 0, none);
        // The corner x = 2, y = 0 is cut away by x + y < 2, so x has no greatest value.
        RowsMeet cut = Check.with("x+y<2;-y<=0;-x<=0;");
        bound(cut, 0, 1, new long[] {2, 1, 0});
        bound(cut, 0, 0, new long[] {0, 1, 1});
        // The edge x = 2 keeps points although one of its ends is cut away.
        RowsMeet kept = Check.with("x<=2;y<=1;-y<1;x+y<3;");
        bound(kept, 0, 1, new long[] {2, 1, 1});
        RowsMeet solid = Check.with("5x+4y+3z<=50;-x+3y-z<=2;-3x-5y+4z<=7;-5x-2y-5z<=-1;");
        // 7, 29 and 2 times the first three rows are 105y <= 422.
        bound(solid, 1, 1, new long[] {422, 105, 1});
        CHECK.due("a bound of fewer", lowestTerms.bound(2, 0, 1, 0), NONE);
    }

    private static void boundErrors() {
        RowsMeet x = Check.with("x<0;-x<0;");
        CHECK.due("bound of the unsatisfiable", x.bound(3, 0, 0, 0), NO);
        CHECK.due("bound of the unsatisfiable, free variable", x.bound(3, 2, 0, 2), NO);
        int[][] wrong = {{3, -1, 0, 0}, {3, 3, 0, 0}, {3, 0, -1, 0}, {3, 0, 2, 0}, {3, 0, 0, -1}, {3, 0, 0, 3},
            {4, 0, 0, 0}};
        for (int[] w : wrong) {
            CHECK.due("bound, BAD before NO", x.bound(w[0], w[1], w[2], w[3]), BAD);
        }
        CHECK.due("told(0)", x.told(0), 7);
        CHECK.due("told(1)", x.told(1), 2);
    }

    private static void brings() {
        RowsMeet x = Check.with("x<1;x<=1;x=1;-x<=-1;x+y<2;y<1;0<0;0=0;2x<2;");
        int[][] cases = {{0, 0, 0}, {1, 0, 1}, {1, 1, 1}, {2, 0, 0}, {4, 1, 1}, {4, 0, 0}, {4, 3, 1}, {2 + 8, 2, 1},
            {2, 2, 0}, {8, 2, 0}, {2 + 32, 4, 1}, {2 + 16, 5, 0}, {4 + 16, 5, 1}, {0, 7, 1}, {0, 6, 0}, {64, 0, 1},
            {1 + 8, 4, 1}, {1, 8, 1}, {256, 0, 1}};
        for (int[] c : cases) {
            CHECK.due("brings(" + c[0] + ", " + c[1] + ")", x.brings(c[0], c[1]), c[2]);
        }
        CHECK.due("brings(0, 9)", x.brings(0, 9), BAD);
        CHECK.due("brings(0, -1)", x.brings(0, -1), BAD);
        CHECK.due("brings(512, 0)", x.brings(512, 0), BAD);
    }

    private static void spare() {
        CHECK.due("spare of nothing", new RowsMeet().spare(0), 0);
        RowsMeet x = Check.with("x<=1;2x<=2;x<=2;y<0;0<=0;");
        CHECK.due("two that say the same are both redundant", x.spare(31), 1 + 2 + 4 + 16);
        CHECK.due("spare(1)", x.spare(1), 0);
        CHECK.due("spare(5)", x.spare(5), 4);
        CHECK.due("spare(16)", x.spare(16), 16);
        RowsMeet not = Check.with("x<0;-x<0;y<0;");
        CHECK.due("what stands beside a contradiction is redundant", not.spare(7), 4);
        RowsMeet two = Check.with("x<0;-x<0;y<0;-y<0;");
        CHECK.due("two contradictions", two.spare(15), 15);
    }

    private static void same() {
        RowsMeet x = Check.with("x<=1;-x<=-1;x=1;x<1;0<0;2x<2;y<1;");
        int[][] cases = {{0, 0, 1}, {3, 4, 1}, {4, 3, 1}, {7, 4, 1}, {1, 2, 0}, {1, 8, 0}, {8, 1, 0}, {8, 32, 1},
            {9, 8, 1}, {16, 8 + 2, 1}, {16, 0, 0}, {0, 16, 0}, {4, 1, 0}, {64, 0, 0}, {64 + 8, 64 + 32, 1},
            {1, 0, 0}, {0, 1, 0}};
        for (int[] c : cases) {
            CHECK.due("same(" + c[0] + ", " + c[1] + ")", x.same(c[0], c[1]), c[2]);
        }
        CHECK.due("same(128, 0)", x.same(128, 0), BAD);
        CHECK.due("same(0, 128)", x.same(0, 128), BAD);
        CHECK.due("told(0)", x.told(0), 2);
    }

    /** Checks the canonical solution of all rows of a text. */
    private static void point(String text, long... want) {
        RowsMeet x = Check.with(text);
        for (int n = 0; n < 6; n++) {
            CHECK.due("point of " + text + " at " + n, x.point(every(x), n / 2, n % 2), want[n]);
        }
    }

    private static void points() {
        point("0=0;", 0, 1, 0, 1, 0, 1);
        point("-x<=-2;y<=3;-y<=2;-z<=0;", 2, 1, -2, 1, 0, 1);
        point("-2x<=-3;4y<=-5;-z<3;", 3, 2, -5, 4, -2, 1);
        point("x<3;-y<0;2z<7;", 2, 1, 1, 1, 3, 1);
        point("2x<-1;-2y<1;-2z<-1;", -1, 1, 0, 1, 1, 1);
        point("x<=3;-x<1;y<-1;z<0;", 3, 1, -2, 1, -1, 1);
        point("x=2;x+y=5;x+y+z<=0;", 2, 1, 3, 1, -5, 1);
        point("x+y<1;-x-y<0;", 0, 1, 1, 2, 0, 1);
        // x is 2 at the corner only: it is attained, then y is fixed.
        point("-x<=-2;x+y<=3;-y<=-1;", 2, 1, 1, 1, 0, 1);
        // The lower bound of x is not attained, the upper one is.
        point("-x<-2;3x<=7;x-y=0;", 7, 3, 7, 3, 0, 1);
    }

    private static void pointBetween() {
        point("-x<0;x<1;", 1, 2, 0, 1, 0, 1);
        point("-x<-1;x<5;", 2, 1, 0, 1, 0, 1);
        point("-x<5;x<-1;", -2, 1, 0, 1, 0, 1);
        point("-x<5;x<1;", 0, 1, 0, 1, 0, 1);
        point("-3x<-1;2x<1;", 2, 5, 0, 1, 0, 1);
        point("3x<-1;-2x<1;", -2, 5, 0, 1, 0, 1);
        point("-5x<-49;4x<40;", 59, 6, 0, 1, 0, 1);
        point("-x<0;5x<1;", 1, 6, 0, 1, 0, 1);
        point("x<0;-5x<1;", -1, 6, 0, 1, 0, 1);
        point("-x<1;x<0;y-x<0;x-y<1;", -1, 2, -1, 1, 0, 1);
        point("5x-y=0;5y<9;-4y<-7;", 5, 14, 25, 14, 0, 1);
        point("5x-y=0;5y-z=0;5z<31;-4z<-24;", 7, 29, 35, 29, 175, 29);
        // Nothing is attained: x is in (2/5, 1/2), then y in (1, 15/14), then z in (29/15, 59/30).
        point("-3x<-1;2x<1;5x-3y<0;-5x+2y<0;-y-z<-3;y+2z<5;", 3, 7, 16, 15, 31, 16);
    }

    private static void pointErrors() {
        RowsMeet x = Check.with("x<0;-x<0;");
        CHECK.due("point of the unsatisfiable", x.point(3, 0, 0), NO);
        CHECK.due("point(3, 3, 0)", x.point(3, 3, 0), BAD);
        CHECK.due("point(3, -1, 0)", x.point(3, -1, 0), BAD);
        CHECK.due("point(3, 0, 2)", x.point(3, 0, 2), BAD);
        CHECK.due("point(3, 0, -1)", x.point(3, 0, -1), BAD);
        CHECK.due("point(4, 0, 0)", x.point(4, 0, 0), BAD);
        CHECK.due("told(0)", x.told(0), 5);
        CHECK.due("told(1)", x.told(1), 1);
    }

    private static void strangeSets() {
        RowsMeet x = Check.with("x<0;-x<1;");
        for (int set : STRANGE) {
            CHECK.due("can(" + set + ")", x.can(set), BAD);
            CHECK.due("dimension(" + set + ")", x.dimension(set), BAD);
            CHECK.due("bound(" + set + ")", x.bound(set, 0, 0, 0), BAD);
            CHECK.due("brings(" + set + ")", x.brings(set, 0), BAD);
            CHECK.due("spare(" + set + ")", x.spare(set), BAD);
            CHECK.due("same(" + set + ")", x.same(set, 0), BAD);
            CHECK.due("point(" + set + ")", x.point(set, 0, 0), BAD);
            CHECK.due("core(" + set + ")", x.core(set), BAD);
            CHECK.due("times(" + set + ")", x.times(set, 0), BAD);
            CHECK.due("sides(" + set + ")", x.sides(set), BAD);
        }
        CHECK.due("told(0)", x.told(0), 10 * STRANGE.length);
        CHECK.due("told(1)", x.told(1), 0);
    }
}
