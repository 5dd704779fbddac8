/** Promises 13 to 15: cores, multipliers and the interpolant. */
public final class CoresTest {
    private static final int BAD = RowsMeet.BAD, NO = RowsMeet.NO;
    private static final Check CHECK = new Check("CoresTest");

    public static void main(String[] args) {
        cores();
        coreErrors();
        multipliers();
        timesErrors();
        interpolants();
        interpolantKinds();
        betweenErrors();
        CHECK.end();
    }

    private static int every(RowsMeet x) {
        return (1 << x.told(4)) - 1;
    }

    private static void cores() {
        Object[][] cases = {{"x<0;-x<0;", 3}, {"y<5;x<0;-x<0;z<1;", 6}, {"x<0;-x<0;-x<0;", 3}, {"0<0;x<0;-x<0;", 1},
            {"x<0;-x<0;0<0;", 3}, {"x<=1;y<=1;z<=1;-x-y-z<=-4;", 15}, {"x=1;x=2;x=3;", 3}, {"0=5;", 1},
            {"x<=1;x<=0;-x<=-2;", 5}, {"x<5;x<=0;-x<=-2;", 6}};
        for (Object[] c : cases) {
            RowsMeet x = Check.with((String) c[0]);
            CHECK.due("core of " + c[0], x.core(every(x)), (Integer) c[1]);
        }
        RowsMeet x = Check.with("x<0;-x<0;y<0;-y<0;");
        CHECK.due("the highest is considered first", x.core(15), 3);
        CHECK.due("core(14)", x.core(14), 12);
        CHECK.due("core(12)", x.core(12), 12);
    }

    private static void coreErrors() {
        RowsMeet x = Check.with("x<0;-x<1;");
        CHECK.due("core of a satisfiable set", x.core(3), NO);
        CHECK.due("core of the empty set", x.core(0), NO);
        CHECK.due("core(4)", x.core(4), BAD);
        CHECK.due("told(1)", x.told(1), 2);
        CHECK.due("told(0)", x.told(0), 1);
    }

    private static void times(String text, int... want) {
        RowsMeet x = Check.with(text);
        for (int i = 0; i < want.length; i++) {
            CHECK.due("times of " + i + " in " + text, x.times(every(x), i), want[i]);
        }
    }

    private static void multipliers() {
        times("x<0;-x<0;", 1, 1);
        times("2x<1;-3x<-2;", 3, 2);
        times("4x<0;-2x<0;", 1, 2);
        times("0<0;", 1);
        times("y<0;-2y<0;", 2, 1);
        times("z<0;-2z<0;", 2, 1);
        times("x+y<0;-2x-2y<0;", 2, 1);
        times("x+y-z<0;-2x-2y+2z<0;", 2, 1);
        times("x<0;y<0;-2x-2y<0;", 2, 2, 1);
        times("x<0;z<0;-2x-2z<0;", 2, 2, 1);
        times("y<0;z<0;-2y-2z<0;", 2, 2, 1);
        times("x+y<0;y+z<0;-x-2y-z<0;", 1, 1, 1);
        times("0<=-9;", 1);
        times("0=9;", -1);
        times("0=-9;", 1);
        times("x=1;x=2;", 1, -1);
        times("x=2;x=1;", -1, 1);
        times("-2x=2;3x=5;", -3, -2);
        times("x=1;x<1;", -1, 1);
        times("x<1;2x=2;", 2, -1);
        times("-x<-1;x=1;", 1, 1);
        times("x<=1;y<=1;z<=1;-x-y-z<=-4;y<9;", 1, 1, 1, 1, 0);
        times("x+y=1;2x+3y=4;5x-y<=-40;-x<-3;", -17, 6, 1, 0);
        times("5x-4y+3z<=-50;-4x+5y-5z<=-50;3x-5y-4z<=-50;-4x+4y+5z<=-50;", 81, 73, 77, 86);
        times("5x=1;4y=1;3z=1;5x+4y+3z=4;", 1, 1, 1, -1);
        times("5x=1;4y=1;3z=1;5x+4y+3z=2;", -1, -1, -1, 1);
    }

    private static void timesErrors() {
        RowsMeet x = Check.with("x<0;-x<0;y<1;");
        CHECK.due("times of a row outside the set", x.times(3, 2), 0);
        CHECK.due("times(1, 0)", x.times(1, 0), NO);
        CHECK.due("times(0, 0)", x.times(0, 0), NO);
        CHECK.due("times(3, 3)", x.times(3, 3), BAD);
        CHECK.due("times(3, -1)", x.times(3, -1), BAD);
        CHECK.due("BAD before NO", x.times(1, 3), BAD);
        CHECK.due("times(8, 0)", x.times(8, 0), BAD);
        CHECK.due("told(0)", x.told(0), 4);
        CHECK.due("told(1)", x.told(1), 2);
    }

    /** Reads rows, gives those of a set to party 1, and checks the interpolant. */
    private static void between(String text, int second, int... want) {
        RowsMeet x = Check.with(text);
        for (int i = 0; i < x.told(4); i++) {
            x.sets(i, 2, second >> i & 1);
        }
        for (int what = 0; what <= 4; what++) {
            CHECK.due("between(" + what + ") of " + text + " with " + second, x.between(what), want[what]);
        }
    }

    private static void interpolants() {
        between("2x+y<=1;-3x<-2;-y<=0;", 6, 6, 3, 0, 1, 3);
        between("2x+y<=1;-3x<-2;-y<=0;", 1, -6, -3, 0, 0, -4);
        between("2x+y<=1;-3x<-2;-y<=0;", 2, 6, 0, 0, 1, 3);
        between("2x+y<=1;-3x<-2;-y<=0;", 7, 0, 0, 0, 2, 0);
        between("2x+y<=1;-3x<-2;-y<=0;", 0, 0, 0, 0, 0, -1);
        between("x<5;2x+y<=1;-3x<-2;-y<=0;z<7;", 12, 6, 3, 0, 1, 3);
    }

    private static void interpolantKinds() {
        between("x=1;x<1;", 2, -1, 0, 0, 2, -1);
        between("x=1;x<1;", 1, 1, 0, 0, 0, 1);
        between("x=1;x<1;", 0, 0, 0, 0, 0, 0);
        between("x=1;x=2;", 0, 0, 0, 0, 2, -1);
        between("x=1;x=2;", 3, 0, 0, 0, 2, 0);
        between("x+y=1;x<=0;y<=0;", 4, 0, -1, 0, 1, -1);
        between("x+y=1;x<0;y<=0;", 4, 0, -1, 0, 0, -1);
        between("0=3;x<1;", 0, 0, 0, 0, 2, -3);
    }

    private static void betweenErrors() {
        RowsMeet x = new RowsMeet();
        CHECK.due("between without rows", x.between(0), NO);
        CHECK.due("between(5)", x.between(5), BAD);
        CHECK.due("between(-1)", x.between(-1), BAD);
        Check.read(x, "x<0;-x<1;");
        CHECK.due("between of a satisfiable set", x.between(4), NO);
        CHECK.due("told(0)", x.told(0), 2);
        CHECK.due("told(1)", x.told(1), 2);
    }
}
