/**
 * The fault of a text: at each kind of place, all 128 bytes are tried. Those that can stand there
 * lead on, all others are the fault.
 */
public final class FaultEdgesTest {
    private static final Check CHECK = new Check("FaultEdgesTest");
    private static final String DIGITS = "0123456789", FIRST = " -012345xyz";

    public static void main(String[] args) {
        bytesOfOrders();
        bytesOfFormulas();
        bytesOfFormulasWithoutConstraints();
        rightSideAboveFifty();
        anyByteBehindAWrongNumber();
        secondDigitBeforeALetter();
        thirdDigitOfANumber();
        letterThatOccursAlready();
        signAfterThreeLetters();
        numberOfNoConstraint();
        parentheses();
        textEndsTooEarly();
        blanks();
        atLeastOneOrder();
        textOfEightyBytes();
        firstFaultOfSeveral();
        CHECK.end();
    }

    private static void orders(String text, int fault) {
        RowsMeet x = new RowsMeet();
        CHECK.due("reads '" + text + "'", Check.read(x, text), -10 - fault);
        CHECK.due("a fault is not counted", x.told(0) + x.told(1) + x.told(2), 0);
        CHECK.due("nothing is added by '" + text + "'", x.told(4) + x.told(5), 0);
    }

    private static void added(String text, int number) {
        CHECK.due("reads '" + text + "'", Check.read(new RowsMeet(), text), number);
    }

    private static RowsMeet with(int rows) {
        RowsMeet x = new RowsMeet();
        for (int i = 0; i < rows; i++) {
            x.row(1, 0, 0, 0, i, 0);
        }
        return x;
    }

    private static void formula(int rows, String text, int fault) {
        RowsMeet x = with(rows);
        for (int what = 0; what <= 2; what++) {
            CHECK.due("formula(" + what + ") '" + text + "', " + rows + " rows", Check.formula(x, text, what), -10 - fault);
        }
        CHECK.due("a fault is not counted", x.told(0) + x.told(1) + x.told(2), 0);
    }

    private static void right(int rows, String text) {
        CHECK.holds("formula '" + text + "' has no fault, " + rows + " rows", Check.formula(with(rows), text, 2) > 0);
    }

    /** Behind a head, the bytes of more lead on to a text that is too short, and those of ends end it. */
    private static void next(String head, String more, String ends) {
        for (int c = 0; c < 128; c++) {
            String text = head + (char) c;
            int got = Check.read(new RowsMeet(), text);
            String name = "reads '" + head + "' and byte " + c;
            if (ends.indexOf(c) >= 0) {
                CHECK.holds(name + " is whole", got > 0);
            } else {
                CHECK.due(name, got, -10 - (more.indexOf(c) >= 0 ? text.length() : head.length()));
            }
        }
    }

    private static void bytesOfOrders() {
        next("", FIRST, "");
        next("  ", FIRST, "");
        next("-", " 12345xyz", "");
        next("- ", " 12345xyz", "");
        next("3", " xyz", "");
        next("-3", " xyz", "");
        next("3 ", " xyz", "");
        next("0", " <=", "");
        next("0 ", " <=", "");
        next("x", " +-<=", "");
        next("-y ", " +-<=", "");
        next("x+", " 12345yz", "");
        next("y- ", " 12345xz", "");
        next("x+y-", " 12345z", "");
        next("z-4", " xy", "");
        next("z-4 ", " xy", "");
        next("x+y", " +-<=", "");
        next("x<", " =-" + DIGITS, "");
        next("x< ", " -" + DIGITS, "");
        next("x<=", " -" + DIGITS, "");
        next("x=", " -" + DIGITS, "");
        next("0=", " -" + DIGITS, "");
        next("x<-", " " + DIGITS, "");
        next("x<=- ", " " + DIGITS, "");
        next("x<4", " " + DIGITS, ";");
        next("x<0", " " + DIGITS, ";");
        next("x<-4", " " + DIGITS, ";");
        next("x<50", " ", ";");
        next("x<00", " ", ";");
        next("x<4 ", " ", ";");
        next("x<50 ", " ", ";");
        next("x<1;", FIRST.substring(1), " ");
        next("x<1; ", FIRST.substring(1), " ");
        next("x<1;x", " +-<=", "");
        next("x<1;y+", " 12345xz", "");
    }

    /** As next(), for formulas with so many constraints. */
    private static void nextOfFormula(int rows, String head, String more, String ends) {
        for (int c = 0; c < 128; c++) {
            String text = head + (char) c;
            int got = Check.formula(with(rows), text, 2);
            String name = "formula '" + head + "' and byte " + c + ", " + rows + " rows";
            if (ends.indexOf(c) >= 0) {
                CHECK.holds(name + " is whole", got > 0);
            } else {
                CHECK.due(name, got, -10 - (more.indexOf(c) >= 0 ? text.length() : head.length()));
            }
        }
    }

    private static void bytesOfFormulas() {
        for (String head : new String[] {"", " ", "!", "! ", "!!", "0&", "0|", "0& ", "!0&!", "(1)|"}) {
            nextOfFormula(12, head, " !(", DIGITS);
            nextOfFormula(3, head, " !(", "012");
        }
        for (String head : new String[] {"(", "( ", "!(", "((", "(((((((", "0&(", "(0|", "(0&!"}) {
            nextOfFormula(12, head, " !(" + DIGITS, "");
        }
        nextOfFormula(12, "((((((((", " !" + DIGITS, "");
        nextOfFormula(12, "((((((((!", " !" + DIGITS, "");
        nextOfFormula(12, "((((((((0&", " !" + DIGITS, "");
        nextOfFormula(12, "0", "&|", " " + DIGITS);
        for (String head : new String[] {"0 ", "00", "11", "11 ", "(0)", "(0) ", "((0))", "0&1 ", "!5 ", "1|(2)"}) {
            nextOfFormula(12, head, "&|", " ");
        }
        for (String head : new String[] {"(0 ", "(00", "(!3 ", "(1&(2)", "(!(0) "}) {
            nextOfFormula(12, head, " &|", ")");
        }
        nextOfFormula(12, "((0 ", " &|)", "");
        nextOfFormula(12, "((((((((0 ", " &|)", "");
    }

    private static void bytesOfFormulasWithoutConstraints() {
        nextOfFormula(0, "", " !(", "");
        nextOfFormula(0, "(", " !(", "");
        nextOfFormula(0, "!", " !(", "");
        nextOfFormula(1, "", " !(", "0");
        nextOfFormula(1, "0|", " !(", "0");
    }

    /** "For a right side above 50 ... the place of its first digit (also if the text ends behind ...)". */
    private static void rightSideAboveFifty() {
        for (int d = 0; d <= 99; d++) {
            for (String sign : new String[] {"", "-", "- "}) {
                String head = "x<=" + sign;
                if (d <= 50) {
                    RowsMeet x = new RowsMeet();
                    CHECK.due("reads " + head + d, Check.read(x, head + d + ";"), 1);
                    CHECK.due("right side of " + head + d, x.of(0, 4), sign.isEmpty() ? d : -d);
                    orders(head + d, (head + d).length());
                } else {
                    for (String tail : new String[] {";", "", " ", " ;", "?", "x", " 1;", ";x<1;"}) {
                        orders(head + d + tail, head.length());
                    }
                }
            }
        }
        orders("x<1;y<51;", 6);
        orders("x<51;y<99;", 2);
    }

    /** "if the number has no third digit, it is the place of its first digit", whatever stands behind it. */
    private static void anyByteBehindAWrongNumber() {
        for (int c = 0; c < 128; c++) {
            boolean digit = c >= '0' && c <= '9';
            orders("x<51" + (char) c, digit ? 4 : 2);
            orders("x<-99" + (char) c, digit ? 5 : 3);
            formula(3, "0|03" + (char) c, digit ? 4 : 2);
            formula(12, "(12" + (char) c, digit ? 3 : 1);
            // Here a digit is the second one of a number that does not exist either.
            formula(3, "!3" + (char) c, 1);
        }
    }

    /** "a second digit before a letter". */
    private static void secondDigitBeforeALetter() {
        orders("11x<1;", 1);
        orders("15x<1;", 1);
        orders("1 1x<1;", 2);
        orders("10x<1;", 1);
        orders("-22x<1;", 2);
        orders("x+22y<1;", 3);
        orders("x-2 2y<1;", 4);
        orders("55", 1);
    }

    /** "a third digit of a number", also of one that is too large already. */
    private static void thirdDigitOfANumber() {
        orders("x<100;", 4);
        orders("x<-100;", 5);
        orders("x<000;", 4);
        orders("x<050;", 4);
        orders("x<999;", 4);
        orders("x<510", 4);
        orders("x<5000;", 4);
        formula(3, "000", 2);
        formula(3, "001", 2);
        formula(3, "999", 2);
        formula(3, "120", 2);
        formula(12, "0&110", 4);
        formula(12, "(1111)", 3);
        formula(0, "000", 2);
    }

    /** "a letter that occurs in the order already". */
    private static void letterThatOccursAlready() {
        orders("x+x<1;", 2);
        orders("x-5x<1;", 3);
        orders("y+x+y<1;", 4);
        orders("z-z<1;", 2);
        orders("x+y+z+z<1;", 6);
        orders("x+y+z+3y<1;", 7);
        orders("x + 2 x<1;", 6);
        added("x<1;x<1;", 2);
        added("x+y+z<1;z+y+x<1;", 2);
    }

    // The document calls the letter the fault, so the sign before it can stand.
    private static void signAfterThreeLetters() {
        orders("x+y+z+", 6);
        orders("x+y+z-", 6);
        orders("x+y+z+<1;", 6);
        orders("x+y+z+4<1;", 7);
    }

    /** "for a number of a constraint that does not exist ... the place of its first digit". */
    private static void numberOfNoConstraint() {
        for (int rows = 0; rows <= 12; rows++) {
            for (int i = 0; i <= 99; i++) {
                for (String head : new String[] {"", "!", "!!(", "  "}) {
                    if (i >= rows) {
                        formula(rows, head + i, head.length());
                    }
                }
            }
            if (rows > 0) {
                right(rows, "" + (rows - 1));
                right(rows, String.format("%02d", rows - 1));
                formula(rows, String.format("%02d", rows) + ")", 0);
                formula(rows, "0&" + rows + "&0", 2);
                formula(rows, "(0|" + rows, 3);
                formula(rows, rows + " 0", 0);
                formula(rows, rows + " ", 0);
                formula(rows, rows + "x", 0);
            }
        }
    }

    /** "A parenthesis may be inside at most 7 others"; "a ( inside 8 others" is the fault. */
    private static void parentheses() {
        for (int open = 1; open <= 20; open++) {
            String text = "(".repeat(open) + "0" + ")".repeat(open);
            if (open <= 8) {
                right(1, text);
                formula(1, text + ")", text.length());
                formula(1, text.substring(0, text.length() - 1), text.length() - 1);
            } else {
                formula(1, text, 8);
                formula(1, "(".repeat(open), 8);
            }
        }
        right(1, "((((((((0))))))))&((((((((0))))))))");
        right(1, "(((((((0)|(0)|(0&(0))))))))");
        formula(1, "(((((((0)|((0)|(0&(0))))))))", 18);
        formula(1, "((((((((0)|(0)|((0", 16);
        formula(1, "!(!(!(!(!(!(!(!(!(0", 17);
        right(1, "!(!(!(!(!(!(!(!(!0))))))))");
        formula(1, "()", 1);
        formula(1, "(0", 2);
        formula(1, "0)", 1);
        formula(1, ")0", 0);
    }

    /** "If the text ends too early (also if it is empty), the fault is its length." */
    private static void textEndsTooEarly() {
        String whole = " - 2 x + 3 y - z <= - 12 ;";
        for (int length = 0; length < whole.length(); length++) {
            orders(whole.substring(0, length), length);
            // With nothing or a blank behind it, the first order is a whole text.
            if (length > 1) {
                orders("x<1;" + whole.substring(0, length), 4 + length);
            }
        }
        added(whole, 1);
        String formula = " ! ( 0 & ! ( 1 | 2 ) ";
        for (int length = 0; length <= formula.length(); length++) {
            formula(3, formula.substring(0, length), length);
        }
        right(3, formula + ")");
        for (String text : new String[] {"", " ", "   "}) {
            orders(text, text.length());
            formula(0, text, text.length());
            formula(12, text, text.length());
        }
    }

    /** "Blanks may stand anywhere except inside a number and between < and = ." */
    private static void blanks() {
        String[] parts = {"-", "2", "x", "+", "3", "y", "-", "z", "<=", "-", "12", ";", "0", "=", "7", ";"};
        for (int blank = 0; blank <= parts.length; blank++) {
            StringBuilder text = new StringBuilder();
            for (int n = 0; n < parts.length; n++) {
                text.append(n == blank ? "  " : "").append(parts[n]);
            }
            added(text.append(blank == parts.length ? " " : "").toString(), 2);
        }
        orders("x< =1;", 3);
        orders("x<  =1;", 4);
        orders("x<1 2;", 4);
        orders("x<- 1 2;", 6);
        formula(12, "1 1", 2);
        formula(12, "0|1  0", 5);
        // Only byte 32 is a blank.
        orders("\tx<1;", 0);
        orders("x<1;\n", 4);
        formula(1, "0\t", 1);
        formula(1, "\0000", 0);
    }

    /** "there must be at least one order". */
    private static void atLeastOneOrder() {
        orders("", 0);
        orders(" ", 1);
        orders(";", 0);
        orders(" ;", 1);
        added("x<1;", 1);
        orders("x<1;;", 4);
        orders("x<1; ;", 5);
    }

    private static void textOfEightyBytes() {
        added("x<1" + " ".repeat(76) + ";", 1);
        added("x<1;" + " ".repeat(76), 1);
        added(" ".repeat(76) + "x<1;", 1);
        added("0<=10;".repeat(11) + "-5x-5y-5z<=-5;", 12);
        orders(" ".repeat(80), 80);
        orders(" ".repeat(77) + "x<1", 80);
        orders(" ".repeat(76) + "x<51", 78);
        orders(" ".repeat(75) + "x<510", 79);
        orders(" ".repeat(76) + "x<1x", 79);
        orders(" ".repeat(79) + ";", 79);
        right(12, "0|".repeat(39) + "11");
        right(12, " ".repeat(79) + "0");
        right(12, "0" + " ".repeat(79));
        right(1, "!".repeat(79) + "0");
        right(1, "((((((((" + " ".repeat(63) + "0))))))))");
        formula(1, "!".repeat(80), 80);
        formula(1, "0|".repeat(40), 80);
        formula(1, "0&".repeat(39) + "0)", 79);
        formula(1, "0&".repeat(39) + "01", 78);
        formula(12, "0 &".repeat(25) + "00000", 77);
        formula(12, "0&0&" + "0 &".repeat(24) + " 000", 79);
        RowsMeet x = new RowsMeet();
        Check.write(x, " ".repeat(76) + "x<1" + ";" + "?");
        CHECK.due("the 81st byte is not there", x.reads(), 1);
        CHECK.due("told(3)", x.told(3), 80);
    }

    /** "the first byte that cannot stand there". */
    private static void firstFaultOfSeveral() {
        orders("x<51;6x<1;", 2);
        orders("6x<51;", 0);
        orders("x+x<100;", 2);
        orders("x<1;y<1;z<1;?;?", 12);
        formula(3, "0&3&4", 2);
        formula(3, "0&3&000", 2);
        formula(3, "0&000&3", 4);
        formula(3, "9)", 0);
    }
}
