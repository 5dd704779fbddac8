/** The sentences of "The canonical solution", a case of the rule after the other. */
public final class PointEdgesTest {
    private static final int NO = RowsMeet.NO;
    private static final Check CHECK = new Check("PointEdgesTest");

    public static void main(String[] args) {
        lowerBoundIfAttained();
        otherwiseUpperBoundIfAttained();
        otherwiseLowestDenominator();
        ofSeveralTheLowestNumerator();
        otherwiseLowestIntegerAbove();
        otherwiseHighestIntegerBelow();
        otherwiseZero();
        xThenYThenZ();
        valuesChosenBeforeCount();
        largeDenominators();
        CHECK.end();
    }

    private static int every(RowsMeet x) {
        return (1 << x.told(4)) - 1;
    }

    /** The rule for one variable: the rows are given for x, and asked for x, y and z in turn. */
    private static void alone(String text, long top, long bottom) {
        for (int k = 0; k < 3; k++) {
            String turned = text.replace('x', (char) ('x' + k));
            RowsMeet x = Check.with(turned);
            CHECK.due("numerator for " + turned, x.point(every(x), k, 0), top);
            CHECK.due("denominator for " + turned, x.point(every(x), k, 1), bottom);
            for (int other = 0; other < 3; other++) {
                if (other != k) {
                    CHECK.due("another variable for " + turned, x.point(every(x), other, 0), 0);
                    CHECK.due("another variable for " + turned, x.point(every(x), other, 1), 1);
                }
            }
        }
    }

    private static void whole(String text, long... want) {
        RowsMeet x = Check.with(text);
        for (int n = 0; n < 6; n++) {
            CHECK.due("value " + n + " for " + text, x.point(every(x), n / 2, n % 2), want[n]);
        }
    }

    private static void lowerBoundIfAttained() {
        alone("-x<=-2;", 2, 1);
        alone("-x<=2;x<=0;", -2, 1);
        alone("-4x<=-6;x<9;", 3, 2);
        alone("-4x<=6;x<9;", -3, 2);
        alone("x=7;", 7, 1);
        alone("3x=-7;", -7, 3);
        alone("x=7;x<=7;-x<=-7;", 7, 1);
        alone("-x<=0;", 0, 1);
        // Zero lies within, but the lower bound comes first.
        alone("-x<=5;x<5;", -5, 1);
    }

    private static void otherwiseUpperBoundIfAttained() {
        alone("x<=3;", 3, 1);
        alone("x<=-3;", -3, 1);
        alone("-x<-2;x<=3;", 3, 1);
        alone("-x<5;2x<=9;", 9, 2);
        alone("-x<=-2;-x<-2;x<=3;", 3, 1);
        alone("4x<=6;", 3, 2);
    }

    private static void otherwiseLowestDenominator() {
        alone("-x<0;x<1;", 1, 2);
        alone("-x<1;x<0;", -1, 2);
        alone("-x<-2;x<3;", 5, 2);
        alone("-2x<-1;x<1;", 2, 3);
        alone("-2x<1;3x<-1;", -2, 5);
        alone("-x<-2;x<4;", 3, 1);
        alone("-2x<-5;2x<7;", 3, 1);
        alone("-5x<0;5x<1;", 1, 6);
        alone("-5x<1;5x<0;", -1, 6);
        alone("-5x<-4;x<1;", 5, 6);
        alone("-4x<-1;3x<1;", 2, 7);
        alone("-5x<-1;4x<1;", 2, 9);
        alone("-5x<-49;x<10;", 59, 6);
        alone("-x<10;5x<-49;", -59, 6);
        alone("-x<=0;-x<0;x<=1;x<1;", 1, 2);
    }

    // A positive and a negative one with the same numerator never are the lowest: 0 lies between.
    private static void ofSeveralTheLowestNumerator() {
        alone("-x<-1;x<9;", 2, 1);
        alone("-x<9;x<-1;", -2, 1);
        alone("-x<9;x<9;", 0, 1);
        alone("-x<1;x<9;", 0, 1);
        alone("-x<9;x<1;", 0, 1);
        alone("-x<0;x<50;", 1, 1);
        alone("-x<50;x<0;", -1, 1);
        alone("-5x<1;5x<1;", 0, 1);
        alone("-2x<-3;2x<9;", 2, 1);
    }

    private static void otherwiseLowestIntegerAbove() {
        alone("-x<0;", 1, 1);
        alone("-x<-3;", 4, 1);
        alone("-x<3;", -2, 1);
        alone("-2x<-7;", 4, 1);
        alone("-2x<7;", -3, 1);
        alone("-5x<-1;", 1, 1);
        alone("-5x<1;", 0, 1);
        alone("-x<-50;", 51, 1);
    }

    private static void otherwiseHighestIntegerBelow() {
        alone("x<0;", -1, 1);
        alone("x<3;", 2, 1);
        alone("x<-3;", -4, 1);
        alone("2x<7;", 3, 1);
        alone("2x<-7;", -4, 1);
        alone("5x<1;", 0, 1);
        alone("5x<-1;", -1, 1);
        alone("x<-50;", -51, 1);
    }

    private static void otherwiseZero() {
        alone("0<=0;", 0, 1);
        RowsMeet x = new RowsMeet();
        for (int n = 0; n < 6; n++) {
            CHECK.due("point without constraints", x.point(0, n / 2, n % 2), n % 2);
        }
        // x has no bound, y then has both.
        whole("x+y=7;", 0, 1, 7, 1, 0, 1);
        whole("x-y=-7;", 0, 1, 7, 1, 0, 1);
    }

    /** "determined for x, then for y, then for z". */
    private static void xThenYThenZ() {
        whole("x+y+z=6;-x<=-1;-y<=-1;-z<=-1;", 1, 1, 1, 1, 4, 1);
        whole("x+y=3;-x<0;-y<0;", 1, 1, 2, 1, 0, 1);
        whole("y+z=3;-y<0;-z<0;", 0, 1, 1, 1, 2, 1);
        whole("x+z=3;x<=1;z<=5;", -2, 1, 0, 1, 5, 1);
        RowsMeet x = Check.with("x+y+z=6;-x<=-1;-y<=-1;-z<=-1;");
        CHECK.due("z asked first", x.point(15, 2, 0), 4);
        CHECK.due("then x", x.point(15, 0, 0), 1);
        CHECK.due("then y", x.point(15, 1, 0), 1);
        CHECK.due("then z of another set", x.point(8, 2, 0), 1);
    }

    /** "together with the constraints that the variables determined before have the values chosen". */
    private static void valuesChosenBeforeCount() {
        // y alone would be in [0, 5], but x is 0 and y is more than 5 times x.
        whole("-x<=0;x<=1;5x-y<0;y<=5;", 0, 1, 5, 1, 0, 1);
        // The lower bound of x is not attained, as y would have to be more and less than 2.
        whole("-x-y<=-4;y<2;x<=9;", 9, 1, -5, 1, 0, 1);
        whole("-x-y<-4;y<2;", 3, 1, 3, 2, 0, 1);
        whole("-2x<-1;x<1;3x-3y<0;y<1;y-z=0;", 2, 3, 3, 4, 3, 4);
        RowsMeet not = Check.with("x<0;-x<0;");
        CHECK.due("no solution", not.point(3, 2, 1), NO);
    }

    // Worked out with fractions of any size; the numbers are those of the narrowest systems found.
    private static void largeDenominators() {
        whole("5x-y=0;5y-z=0;5z<31;-4z<-24;", 7, 29, 35, 29, 175, 29);
        whole("5x-y=0;5y-z=0;5z<=31;-5z<-30;", 31, 125, 31, 25, 31, 5);
    }
}
