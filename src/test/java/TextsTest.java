/** Promises 18 to 21: texts. */
public final class TextsTest {
    private static final int NONE = RowsMeet.NONE, BAD = RowsMeet.BAD, FULL = RowsMeet.FULL;
    private static final Check CHECK = new Check("TextsTest");

    public static void main(String[] args) {
        type();
        clear();
        orders();
        faults();
        readsFull();
        shown();
        shownErrors();
        readsWhatIsShown();
        CHECK.end();
    }

    private static void type() {
        RowsMeet x = new RowsMeet();
        CHECK.due("type(-1)", x.type(-1), BAD);
        CHECK.due("type(128)", x.type(128), BAD);
        CHECK.due("type(256 + 32)", x.type(256 + 32), BAD);
        CHECK.due("told(3)", x.told(3), 0);
        CHECK.due("type(0)", x.type(0), 1);
        CHECK.due("type(127)", x.type(127), 2);
        for (int n = 3; n <= 80; n++) {
            CHECK.due("type " + n, x.type(65), n);
        }
        CHECK.due("an 81st byte", x.type(65), FULL);
        CHECK.due("BAD before FULL", x.type(200), BAD);
        CHECK.due("told(3)", x.told(3), 80);
        CHECK.due("told(2)", x.told(2), 1);
        CHECK.due("told(0)", x.told(0), 4);
        CHECK.due("told(5)", x.told(5), 0);
    }

    private static void clear() {
        RowsMeet x = new RowsMeet();
        CHECK.due("clear of nothing", x.clear(), 0);
        Check.write(x, "x<1;");
        CHECK.due("clear", x.clear(), 4);
        CHECK.due("told(3)", x.told(3), 0);
        CHECK.due("clear again", x.clear(), 0);
        CHECK.due("reads nothing", x.reads(), -10);
        CHECK.due("type after clear", x.type('y'), 1);
        CHECK.due("told(5)", x.told(5), 0);
    }

    private static void order(String text, int... want) {
        RowsMeet x = new RowsMeet();
        CHECK.due("reads " + text, Check.read(x, text), want.length / 5);
        CHECK.due("told(4) after " + text, x.told(4), want.length / 5);
        CHECK.due("told(5) after " + text, x.told(5), 1);
        CHECK.due("the text stays", x.told(3), text.length());
        for (int n = 0; n < want.length; n++) {
            CHECK.due("value " + n + " of " + text, x.of(n / 5, n % 5), want[n]);
        }
        for (int i = 0; i < want.length / 5; i++) {
            CHECK.due("the party of " + i, x.of(i, 5), 0);
        }
    }

    private static void orders() {
        order("x<1;", 1, 0, 0, 0, 1);
        order("-x<=-1;", -1, 0, 0, 1, -1);
        order("2x+3y-4z=50;", 2, 3, -4, 2, 50);
        order("z-5y+x<-50;", 1, -5, 1, 0, -50);
        order("-1y=0;", 0, -1, 0, 2, 0);
        order("5z<=07;", 0, 0, 5, 1, 7);
        order("0<-0;", 0, 0, 0, 0, 0);
        order("0<=00;", 0, 0, 0, 1, 0);
        order("0=-50;", 0, 0, 0, 2, -50);
        order("x<1;y<2;z=-3;", 1, 0, 0, 0, 1, 0, 1, 0, 0, 2, 0, 0, 1, 2, -3);
        order("x<1;x<1;", 1, 0, 0, 0, 1, 1, 0, 0, 0, 1);
        order("  - 2 x  + y  <=  - 12 ; 0 = 3 ;  ", -2, 1, 0, 1, -12, 0, 0, 0, 2, 3);
        order("x<1 ;", 1, 0, 0, 0, 1);
        RowsMeet x = new RowsMeet();
        Check.read(x, "3x+4y+5z<=-6;");
        Check.read(x, "0<6;");
        for (int what = 0; what <= 2; what++) {
            CHECK.due("nothing is left of an earlier order", x.of(1, what), 0);
        }
        CHECK.due("of(1, 4)", x.of(1, 4), 6);
    }

    private static void faults() {
        Object[][] cases = {{"", 0}, {"  ", 2}, {"x", 1}, {"x ", 2}, {"x<", 2}, {"x<-", 3}, {"x<1", 3}, {"x<1 ", 4},
            {"x<=", 3}, {"x<1;y", 5}, {"x<1;;", 4}, {";", 0}, {"<1;", 0}, {"+x<1;", 0}, {"--x<1;", 1}, {"x+-y<1;", 2},
            {"x++y<1;", 2}, {"x+<1;", 2}, {"-<1;", 1}, {"2<1;", 1}, {"2", 1}, {"-2", 2}, {"22x<1;", 1}, {"2 2x<1;", 2},
            {"6x<1;", 0}, {"-6x<1;", 1}, {"x+6y<1;", 2}, {"x+0<1;", 2}, {"x+0y<1;", 2}, {"0x<1;", 1}, {"00<1;", 1},
            {"-0<1;", 1}, {"0+x<1;", 1}, {"0-x<1;", 1}, {"01x<1;", 1}, {"x2<1;", 1}, {"xy<1;", 1}, {"x y<1;", 2},
            {"x+x<1;", 2}, {"x-2x<1;", 3}, {"x+y+z+x<1;", 6}, {"x+y+z-2z<1;", 7}, {"x+y+z+<1;", 6}, {"w<1;", 0},
            {"X<1;", 0}, {"x>1;", 1}, {"x<>1;", 2}, {"x=<1;", 2}, {"x==1;", 2}, {"x<==1;", 3}, {"x< =1;", 3},
            {"x<+1;", 2}, {"x<--1;", 3}, {"x<y;", 2}, {"x<;", 2}, {"x<-;", 3}, {"x<1,", 3}, {"x<1x", 3}, {"x<1 2;", 4},
            {"x<51;", 2}, {"x<51", 2}, {"x<99", 2}, {"x<-51;", 3}, {"x<- 60 ;", 4}, {"x<51?", 2}, {"x<60 1;", 2},
            {"x<512;", 4}, {"x<123", 4}, {"x<000;", 4}, {"x<990;", 4}, {"{<1;", 0}, {"x+{<1;", 2}, {"x<5 1;", 4}, {"x<1;y<51;z", 6}, {"x<1;y<2;z<3", 11},
            {"x<1;\0", 4}, {"x<1;\t", 4}, {"x<1;0&1", 5}, {"(0)", 0}};
        for (Object[] c : cases) {
            RowsMeet x = new RowsMeet();
            CHECK.due("reads " + c[0], Check.read(x, (String) c[0]), -10 - (Integer) c[1]);
            CHECK.due("nothing is added", x.told(4), 0);
            CHECK.due("nothing can be undone", x.told(5), 0);
            CHECK.due("faults are not counted", x.told(0) + x.told(1) + x.told(2), 0);
        }
    }

    private static void readsFull() {
        RowsMeet x = new RowsMeet();
        CHECK.due("twelve", Check.read(x, "0<1;".repeat(12)), 12);
        CHECK.due("one more", Check.read(x, "0<1;"), FULL);
        CHECK.due("one more with a fault", Check.read(x, "0<1;0"), -15);
        x.drops(0);
        CHECK.due("two where one fits", Check.read(x, "x<1;y<1;"), FULL);
        CHECK.due("none is added", x.told(4), 11);
        CHECK.due("one that fits", Check.read(x, "x<1;"), 1);
        CHECK.due("told(2)", x.told(2), 2);
        CHECK.due("told(5)", x.told(5), 3);
        CHECK.due("back", x.back(), 2);
        CHECK.due("told(4)", x.told(4), 11);
        RowsMeet y = new RowsMeet();
        CHECK.due("thirteen", Check.read(y, "0<1;".repeat(13)), FULL);
        CHECK.due("twenty", Check.read(y, "0<1;".repeat(20)), FULL);
        CHECK.due("nineteen and a fault", Check.read(y, "0<1;".repeat(19) + "0<1"), -89);
        CHECK.due("told(4)", y.told(4), 0);
        CHECK.due("told(5)", y.told(5), 0);
    }

    private static void shown(String want, int a, int b, int c, int kind, int d) {
        RowsMeet x = new RowsMeet();
        x.row(a, b, c, kind, d, 1);
        CHECK.holds("shown as " + want + ": " + Check.shown(x, 0), Check.shown(x, 0).equals(want));
        CHECK.due("the end of " + want, x.shown(0, want.length()), NONE);
        CHECK.due("far behind " + want, x.shown(0, Integer.MAX_VALUE), NONE);
    }

    private static void shown() {
        shown("x<1", 1, 0, 0, 0, 1);
        shown("-x<=0", -1, 0, 0, 1, 0);
        shown("2x+3y-4z=50", 2, 3, -4, 2, 50);
        shown("y-z<-5", 0, 1, -1, 0, -5);
        shown("-5x-5y-5z<=-50", -5, -5, -5, 1, -50);
        shown("z=10", 0, 0, 1, 2, 10);
        shown("x+z<9", 1, 0, 1, 0, 9);
        shown("0<0", 0, 0, 0, 0, 0);
        shown("0<=-10", 0, 0, 0, 1, -10);
        shown("0=20", 0, 0, 0, 2, 20);
    }

    private static void shownErrors() {
        RowsMeet x = new RowsMeet();
        CHECK.due("shown(0, 0) without rows", x.shown(0, 0), BAD);
        x.row(1, 0, 0, 0, 1, 0);
        CHECK.due("shown(0, -1)", x.shown(0, -1), BAD);
        CHECK.due("shown(0, lowest)", x.shown(0, Integer.MIN_VALUE), BAD);
        CHECK.due("shown(1, 0)", x.shown(1, 0), BAD);
        CHECK.due("shown(-1, 0)", x.shown(-1, 0), BAD);
        CHECK.due("told(0)", x.told(0), 5);
        CHECK.due("told(5)", x.told(5), 1);
    }

    private static void readsWhatIsShown() {
        for (int n = 0; n < 11 * 11 * 11; n += 7) {
            RowsMeet x = new RowsMeet();
            x.row(n % 11 - 5, n / 11 % 11 - 5, n / 121 - 5, n % 3, n % 101 - 50, 0);
            CHECK.due("reads " + Check.shown(x, 0), Check.read(x, Check.shown(x, 0) + ";"), 1);
            for (int what = 0; what <= 5; what++) {
                CHECK.due("of(1, " + what + ") of " + Check.shown(x, 0), x.of(1, what), x.of(0, what));
            }
        }
    }
}
