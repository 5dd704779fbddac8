/** Promises 16 and 17: sign vectors and formulas. */
public final class SignsTest {
    private static final int BAD = RowsMeet.BAD, NO = RowsMeet.NO;
    private static final Check CHECK = new Check("SignsTest");

    public static void main(String[] args) {
        sides();
        truths();
        grammar();
        faults();
        numbersOfTwoDigits();
        formulaErrors();
        CHECK.end();
    }

    private static int every(RowsMeet x) {
        return (1 << x.told(4)) - 1;
    }

    private static void sides() {
        CHECK.due("sides of nothing", new RowsMeet().sides(0), 1);
        Object[][] cases = {{"x<0;", 3}, {"x=0;", 3}, {"0<1;", 1}, {"0=0;", 1}, {"x<0;x<0;", 3}, {"x<0;-x<0;", 3},
            {"x<0;x<1;", 5}, {"x<0;y<0;", 9}, {"x<0;y<0;z<0;", 27}, {"x<0;y<0;x+y<0;", 13}, {"x<0;y<0;x+y<1;", 19},
            {"x<0;y<0;z<0;x+y+z<0;", 1 + 12 + 24 + 14}, {"x<0;x<1;x<2;x<3;x<4;", 11}, {"x<0;x<1;y<0;y<1;z<0;", 75}};
        for (Object[] c : cases) {
            RowsMeet x = Check.with((String) c[0]);
            CHECK.due("sides of " + c[0], x.sides(every(x)), (Integer) c[1]);
        }
        RowsMeet x = Check.with("x<0;x<1;x<2;x<3;x<4;y<0;");
        CHECK.due("six are too many", x.sides(63), BAD);
        CHECK.due("five of six", x.sides(62), 27);
        CHECK.due("sides(64)", x.sides(64), BAD);
        CHECK.due("sides(-1)", x.sides(-1), BAD);
        CHECK.due("told(0)", x.told(0), 3);
    }

    private static void formula(RowsMeet x, String text, int truths, int vectors, int set) {
        CHECK.due("formula(0) of " + text, Check.formula(x, text, 0), truths);
        CHECK.due("formula(1) of " + text, x.formula(1), vectors);
        CHECK.due("formula(2) of " + text, x.formula(2), set);
        CHECK.due("the text stays", x.told(3), text.length());
    }

    private static void truths() {
        RowsMeet x = Check.with("x<0;x<=0;x=0;y<0;y<=1;0<0;0=0;z=0;");
        formula(x, "0", 1, 3, 1);
        formula(x, "1", 2, 3, 2);
        formula(x, "2", 1, 3, 4);
        formula(x, "!0", 2, 3, 1);
        formula(x, "0|2", 2, 3, 5);
        formula(x, "0&2", 0, 3, 5);
        formula(x, "0|!0", 3, 3, 1);
        formula(x, "0&3", 1, 9, 9);
        formula(x, "0|3", 5, 9, 9);
        formula(x, "3|4", 4, 5, 24);
        formula(x, "5", 0, 1, 32);
        formula(x, "6", 1, 1, 64);
        formula(x, "6|0", 3, 3, 65);
        formula(x, "7&3&1&4&6", 2, 45, 128 + 8 + 2 + 16 + 64);
        x.sets(0, 0, 1);
        formula(x, "0", 2, 3, 1);
    }

    private static void grammar() {
        RowsMeet x = Check.with("x<0;y<0;z<0;");
        formula(x, "0|1&2", 9 + 2, 27, 7);
        formula(x, "0&1|2", 3 + 8, 27, 7);
        formula(x, "(0|1)&2", 5, 27, 7);
        formula(x, "!0&1", 2, 9, 3);
        formula(x, "!(0&1)", 8, 9, 3);
        formula(x, "!!0", 1, 3, 1);
        formula(x, "!!!0", 2, 3, 1);
        formula(x, "  ! ( 0 )  & ( (1) ) ", 2, 9, 3);
        formula(x, "((((((((0))))))))", 1, 3, 1);
        formula(x, "((((((((0)))))))|1)", 5, 9, 3);
        formula(x, "(((0)))&(((((((1)))))))", 1, 9, 3);
        formula(x, "00|01&02", 11, 27, 7);
        formula(x, "2|1|0", 19, 27, 7);
        formula(x, "!".repeat(79) + "0", 2, 3, 1);
        formula(x, "0|".repeat(39) + "0", 1, 3, 1);
    }

    private static void fault(RowsMeet x, String text, int place) {
        for (int what = 0; what <= 2; what++) {
            CHECK.due("formula(" + what + ") of " + text, Check.formula(x, text, what), -10 - place);
        }
    }

    private static void faults() {
        Object[][] cases = {{"", 0}, {"   ", 3}, {"0&", 2}, {"0& ", 3}, {"(0", 2}, {"!", 1}, {"(", 1}, {"()", 1},
            {")", 0}, {"0)", 1}, {"(0))", 3}, {"0 1", 2}, {"01 2", 3}, {"0!", 1}, {"0(1)", 1}, {"(0)1", 3},
            {"(0)(1)", 3}, {"&0", 0}, {"0&&1", 2}, {"0||1", 2}, {"0&|1", 2}, {"x", 0}, {"0;", 1}, {"-1", 0},
            {"3", 0}, {"!3", 1}, {"0|3", 2}, {"0|3)", 2}, {"12", 0}, {"99", 0}, {"000", 2}, {"0000", 2},
            {"999", 2}, {"120", 2}, {"990", 2}, {"0|123", 4}, {"3 0", 0}, {"03", 0}, {"0\t", 1}, {"0\0", 1}, {"(((((((((0)))))))))", 8},
            {"(((((((((", 8}, {"((((((((", 8}, {"((((((((!(0", 9}, {"0&((((((((0)))))))|((0", 22}};
        for (Object[] c : cases) {
            RowsMeet x = Check.with("x<0;y<0;z<0;");
            fault(x, (String) c[0], (Integer) c[1]);
            CHECK.due("faults are not counted", x.told(0) + x.told(1) + x.told(2), 0);
        }
        RowsMeet none = new RowsMeet();
        fault(none, "0", 0);
        fault(none, "!(0", 2);
        fault(none, "!(", 2);
    }

    private static void numbersOfTwoDigits() {
        RowsMeet x = Check.with("x<0;x<1;x<2;x<3;x<4;x<5;x<6;x<7;x<8;x<9;x<10;");
        formula(x, "10", 1, 3, 1024);
        formula(x, "1&0", 1, 5, 3);
        fault(x, "11", 0);
        x.row(0, 1, 0, 0, 0, 0);
        formula(x, "11", 1, 3, 2048);
        formula(x, "11|10&9", 7, 15, 2048 + 1024 + 512);
        fault(x, "12", 0);
        fault(x, "100", 2);
        fault(x, "1 1", 2);
    }

    private static void formulaErrors() {
        RowsMeet x = Check.with("x<0;x<1;x<2;x<3;x<4;x<5;");
        formula(x, "0&1&2&3&4", 1, 11, 31);
        for (int what = 0; what <= 2; what++) {
            CHECK.due("six constraints", Check.formula(x, "0&1&2&3&4&5", what), NO);
        }
        CHECK.due("told(1)", x.told(1), 3);
        CHECK.due("six constraints and a fault", Check.formula(x, "0&1&2&3&4&5&", 0), -22);
        CHECK.due("six constraints and a bad question", Check.formula(x, "0&1&2&3&4&5", 3), BAD);
        CHECK.due("a fault and a bad question", Check.formula(x, "?", -1), BAD);
        formula(x, "0&1&2&3&4&0&00", 1, 11, 31);
        formula(x, "0|1|2|3|4|!0|!4", 11, 11, 31);
        CHECK.due("told(0)", x.told(0), 2);
        CHECK.due("told(1)", x.told(1), 3);
        CHECK.due("told(4)", x.told(4), 6);
    }
}
