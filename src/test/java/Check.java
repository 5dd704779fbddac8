/** Counts the answers of one test that are not as due. */
final class Check {
    private final String name;
    private int calls;
    private int wrong;

    Check(String name) {
        this.name = name;
    }

    void due(String call, long got, long want) {
        calls++;
        if (got != want) {
            wrong++;
            System.out.println(name + ": " + call + " answered " + got + ", due is " + want);
        }
    }

    void holds(String what, boolean holds) {
        due(what, holds ? 1 : 0, 1);
    }

    boolean hasFailed() {
        return wrong > 0;
    }

    /** Ends the test: with exit code 1 if an answer was wrong or nothing was asked. */
    void end() {
        System.out.println(name + ": " + calls + " answers, " + wrong + " wrong");
        if (wrong > 0 || calls == 0) {
            System.exit(1);
        }
    }

    /** Replaces the text of an object. */
    static void write(RowsMeet x, String text) {
        x.clear();
        for (int i = 0; i < text.length(); i++) {
            x.type(text.charAt(i));
        }
    }

    /** Reads orders; what reads() answered. */
    static int read(RowsMeet x, String text) {
        write(x, text);
        return x.reads();
    }

    static int formula(RowsMeet x, String text, int what) {
        write(x, text);
        return x.formula(what);
    }

    static String shown(RowsMeet x, int i) {
        StringBuilder text = new StringBuilder();
        for (int j = 0; x.shown(i, j) != RowsMeet.NONE; j++) {
            text.append((char) x.shown(i, j));
        }
        return text.toString();
    }

    /** An object with the constraints of a text. */
    static RowsMeet with(String orders) {
        RowsMeet x = new RowsMeet();
        if (read(x, orders) <= 0) {
            throw new IllegalArgumentException(orders);
        }
        return x;
    }
}
