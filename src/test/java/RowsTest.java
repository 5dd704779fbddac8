/** Promises 1 to 5, 22 and 23: constraints, their changes and the counts. */
public final class RowsTest {
    private static final int NONE = RowsMeet.NONE, BAD = RowsMeet.BAD, NO = RowsMeet.NO, FULL = RowsMeet.FULL;
    private static final Check CHECK = new Check("RowsTest");

    public static void main(String[] args) {
        newObject();
        row();
        rowOutOfRange();
        drops();
        sets();
        setsOutOfRange();
        of();
        back();
        backKeepsSix();
        backLeavesTheRest();
        told();
        CHECK.end();
    }

    private static void newObject() {
        RowsMeet x = new RowsMeet();
        for (int what = 0; what <= 5; what++) {
            CHECK.due("new: told(" + what + ")", x.told(what), 0);
        }
        CHECK.due("new: can(0)", x.can(0), 1);
        CHECK.due("new: clear()", x.clear(), 0);
        CHECK.due("new: drops(0)", x.drops(0), BAD);
        CHECK.due("new: back()", x.back(), NO);
        RowsMeet other = new RowsMeet();
        CHECK.due("another object is new too", other.told(0) + other.told(1), 0);
    }

    private static void row() {
        RowsMeet x = new RowsMeet();
        CHECK.due("row, the lowest", x.row(-5, -5, -5, 0, -50, 0), 0);
        CHECK.due("row, the highest", x.row(5, 5, 5, 2, 50, 1), 1);
        CHECK.due("row, all 0", x.row(0, 0, 0, 1, 0, 0), 2);
        CHECK.due("row, alike", x.row(0, 0, 0, 1, 0, 0), 3);
        int[] lowest = {-5, -5, -5, 0, -50, 0};
        int[] highest = {5, 5, 5, 2, 50, 1};
        for (int what = 0; what <= 5; what++) {
            CHECK.due("of(0, " + what + ")", x.of(0, what), lowest[what]);
            CHECK.due("of(1, " + what + ")", x.of(1, what), highest[what]);
        }
        for (int i = 4; i < 12; i++) {
            CHECK.due("row " + i, x.row(1, 2, 3, 0, i, 1), i);
        }
        CHECK.due("a thirteenth row", x.row(1, 2, 3, 0, 4, 1), FULL);
        CHECK.due("BAD comes before FULL", x.row(1, 2, 3, 3, 4, 1), BAD);
        CHECK.due("told(4)", x.told(4), 12);
        CHECK.due("told(2)", x.told(2), 1);
        CHECK.due("told(0)", x.told(0), 1);
        CHECK.due("of(11, 4)", x.of(11, 4), 11);
    }

    private static void rowOutOfRange() {
        RowsMeet x = new RowsMeet();
        int[] least = {-5, -5, -5, 0, -50, 0};
        int[] most = {5, 5, 5, 2, 50, 1};
        for (int n = 0; n < 6; n++) {
            int[] wrong = {least[n] - 1, most[n] + 1, Integer.MIN_VALUE, Integer.MAX_VALUE};
            for (int value : wrong) {
                int[] a = {1, 1, 1, 1, 1, 1};
                a[n] = value;
                CHECK.due("row with argument " + n + " = " + value, x.row(a[0], a[1], a[2], a[3], a[4], a[5]), BAD);
            }
        }
        CHECK.due("told(0)", x.told(0), 24);
        CHECK.due("told(4)", x.told(4), 0);
        CHECK.due("told(5)", x.told(5), 0);
    }

    private static void drops() {
        RowsMeet x = Check.with("x<1;y<2;z<3;");
        CHECK.due("drops(3)", x.drops(3), BAD);
        CHECK.due("drops(-1)", x.drops(-1), BAD);
        CHECK.due("drops(lowest)", x.drops(Integer.MIN_VALUE), BAD);
        CHECK.due("drops(1)", x.drops(1), 2);
        CHECK.due("of(1, 4)", x.of(1, 4), 3);
        CHECK.due("of(1, 2)", x.of(1, 2), 1);
        CHECK.due("of(0, 4)", x.of(0, 4), 1);
        CHECK.due("of(2, 4)", x.of(2, 4), BAD);
        CHECK.due("drops(1)", x.drops(1), 1);
        CHECK.due("drops(0)", x.drops(0), 0);
        CHECK.due("drops(0)", x.drops(0), BAD);
        CHECK.due("told(5)", x.told(5), 4);
        RowsMeet y = Check.with("x<1;x<2;x<3;x<4;x<5;x<6;x<7;x<8;x<9;x<10;x<11;x<12;");
        CHECK.due("drops the last of 12", y.drops(11), 11);
        CHECK.due("drops the first", y.drops(0), 10);
        CHECK.due("of(9, 4)", y.of(9, 4), 11);
    }

    private static void sets() {
        RowsMeet x = new RowsMeet();
        x.row(1, 2, 3, 1, -7, 1);
        CHECK.due("sets the kind", x.sets(0, 0, 2), 1);
        CHECK.due("sets the kind", x.sets(0, 0, 0), 2);
        CHECK.due("sets the right side", x.sets(0, 1, 50), -7);
        CHECK.due("sets the right side", x.sets(0, 1, -50), 50);
        CHECK.due("sets the party", x.sets(0, 2, 0), 1);
        CHECK.due("sets what it is", x.sets(0, 2, 0), 0);
        int[] now = {1, 2, 3, 0, -50, 0};
        for (int what = 0; what <= 5; what++) {
            CHECK.due("of(0, " + what + ")", x.of(0, what), now[what]);
        }
        CHECK.due("told(5)", x.told(5), 6);
        CHECK.due("back over what changed nothing", x.back(), 5);
        CHECK.due("of(0, 5)", x.of(0, 5), 0);
        CHECK.due("back", x.back(), 4);
        CHECK.due("of(0, 5)", x.of(0, 5), 1);
    }

    private static void setsOutOfRange() {
        RowsMeet x = new RowsMeet();
        CHECK.due("sets without rows", x.sets(0, 0, 0), BAD);
        x.row(1, 2, 3, 1, -7, 1);
        int[][] wrong = {{1, 0, 0}, {-1, 0, 0}, {0, -1, 0}, {0, 3, 0}, {0, 0, -1}, {0, 0, 3}, {0, 1, -51},
            {0, 1, 51}, {0, 2, -1}, {0, 2, 2}, {0, Integer.MAX_VALUE, 0}, {0, Integer.MAX_VALUE - 2, 0}};
        for (int[] w : wrong) {
            CHECK.due("sets(" + w[0] + ", " + w[1] + ", " + w[2] + ")", x.sets(w[0], w[1], w[2]), BAD);
        }
        CHECK.due("told(0)", x.told(0), 13);
        CHECK.due("told(5)", x.told(5), 1);
    }

    private static void of() {
        RowsMeet x = new RowsMeet();
        x.row(-1, 2, -3, 2, 40, 1);
        int[] is = {-1, 2, -3, 2, 40, 1};
        for (int what = 0; what <= 5; what++) {
            CHECK.due("of(0, " + what + ")", x.of(0, what), is[what]);
        }
        CHECK.due("of(0, 6)", x.of(0, 6), BAD);
        CHECK.due("of(0, -1)", x.of(0, -1), BAD);
        CHECK.due("of(1, 0)", x.of(1, 0), BAD);
        CHECK.due("of(-1, 0)", x.of(-1, 0), BAD);
        CHECK.due("told(0)", x.told(0), 4);
    }

    private static void back() {
        RowsMeet x = new RowsMeet();
        CHECK.due("back without a past", x.back(), NO);
        x.row(1, 0, 0, 1, 5, 0);
        CHECK.due("reads", Check.read(x, "y<1;z<2;"), 2);
        x.sets(2, 1, 9);
        x.drops(0);
        CHECK.due("back over drops", x.back(), 3);
        CHECK.due("told(4)", x.told(4), 3);
        CHECK.due("of(0, 0)", x.of(0, 0), 1);
        CHECK.due("of(2, 4)", x.of(2, 4), 9);
        CHECK.due("back over sets", x.back(), 2);
        CHECK.due("of(2, 4)", x.of(2, 4), 2);
        CHECK.due("back over reads", x.back(), 1);
        CHECK.due("told(4)", x.told(4), 1);
        CHECK.due("back over row", x.back(), 0);
        CHECK.due("told(4)", x.told(4), 0);
        CHECK.due("back", x.back(), NO);
        CHECK.due("told(1)", x.told(1), 2);
        CHECK.due("told(5)", x.told(5), 0);
    }

    private static void backKeepsSix() {
        RowsMeet x = new RowsMeet();
        for (int d = 0; d < 9; d++) {
            x.row(0, 1, 0, 0, d, 0);
            CHECK.due("told(5) after " + (d + 1), x.told(5), Math.min(d + 1, 6));
        }
        CHECK.due("back", x.back(), 5);
        CHECK.due("back", x.back(), 4);
        x.drops(0);
        CHECK.due("told(5)", x.told(5), 5);
        for (int left = 4; left >= 0; left--) {
            CHECK.due("back", x.back(), left);
        }
        CHECK.due("told(4)", x.told(4), 3);
        CHECK.due("of(2, 4)", x.of(2, 4), 2);
        CHECK.due("back", x.back(), NO);
    }

    private static void backLeavesTheRest() {
        RowsMeet x = new RowsMeet();
        x.row(1, 0, 0, 0, 1, 0);
        x.row(1, 0, 0, 0, 99, 0);
        x.type('x');
        x.clear();
        x.type('y');
        CHECK.due("told(5): only the row", x.told(5), 1);
        CHECK.due("reads with a fault", x.reads(), -11);
        CHECK.due("told(5)", x.told(5), 1);
        CHECK.due("back", x.back(), 0);
        CHECK.due("the text stays", x.told(3), 1);
        CHECK.due("the counts stay", x.told(0), 1);
    }

    private static void told() {
        RowsMeet x = new RowsMeet();
        CHECK.due("told(6)", x.told(6), BAD);
        CHECK.due("told(-1)", x.told(-1), BAD);
        CHECK.due("told(0)", x.told(0), 2);
        x.back();
        x.core(0);
        x.between(0);
        CHECK.due("told(1)", x.told(1), 3);
        for (int n = 0; n < 83; n++) {
            x.type(' ');
        }
        CHECK.due("told(2)", x.told(2), 3);
        CHECK.due("told(3)", x.told(3), 80);
        CHECK.due("formula of blanks", x.formula(0), -90);
        CHECK.due("reads blanks", x.reads(), -90);
        CHECK.due("a fault is not counted", x.told(0) + x.told(1) + x.told(2), 8);
        x.row(1, 0, 0, 0, 0, 0);
        CHECK.due("NONE", x.bound(1, 0, 0, 0), NONE);
        CHECK.due("NONE", x.shown(0, 99), NONE);
        CHECK.due("NONE is not counted", x.told(0) + x.told(1) + x.told(2), 8);
        CHECK.due("told(4)", x.told(4), 1);
        CHECK.due("told(5)", x.told(5), 1);
    }
}
