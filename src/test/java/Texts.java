import java.util.Random;

/** Random texts: formulas and orders, and spoiled ones. */
final class Texts {
    private Texts() {
    }

    private static String blank(Random random) {
        return random.nextInt(9) == 0 ? " " : "";
    }

    static String formula(Random random, int rows) {
        return sum(random, rows, random.nextInt(4));
    }

    private static String sum(Random random, int rows, int depth) {
        StringBuilder s = new StringBuilder(product(random, rows, depth));
        while (random.nextInt(3) == 0) {
            s.append(blank(random)).append('|').append(product(random, rows, depth));
        }
        return s.toString();
    }

    private static String product(Random random, int rows, int depth) {
        StringBuilder s = new StringBuilder(factor(random, rows, depth));
        while (random.nextInt(3) == 0) {
            s.append('&').append(blank(random)).append(factor(random, rows, depth));
        }
        return s.toString();
    }

    private static String factor(Random random, int rows, int depth) {
        StringBuilder s = new StringBuilder(blank(random));
        while (random.nextInt(3) == 0) {
            s.append('!').append(blank(random));
        }
        if (depth > 0 && random.nextInt(3) > 0) {
            int times = random.nextInt(12) == 0 ? 1 + random.nextInt(9) : 1;
            s.append("(".repeat(times)).append(sum(random, rows, depth - 1)).append(")".repeat(times));
        } else {
            int i = random.nextInt(30) == 0 ? random.nextInt(14) : random.nextInt(Math.max(1, rows));
            s.append(random.nextInt(6) == 0 ? String.format("%02d", i) : Integer.toString(i));
        }
        return s.append(blank(random)).toString();
    }

    static String orders(Random random) {
        StringBuilder s = new StringBuilder();
        do {
            s.append(order(random));
        } while (random.nextInt(2) == 0);
        return s.append(blank(random)).toString();
    }

    private static String order(Random random) {
        StringBuilder s = new StringBuilder();
        String letters = new String[] {"xyz", "yx", "zx", "z", "y", "zyx", "x", "yzx"}[random.nextInt(8)];
        if (random.nextInt(10) == 0) {
            s.append(blank(random)).append('0');
            letters = "";
        }
        for (int n = 0; n < letters.length(); n++) {
            String sign = random.nextBoolean() ? "-" : n == 0 ? "" : "+";
            String digit = random.nextBoolean() ? "" : Integer.toString(1 + random.nextInt(5));
            s.append(blank(random)).append(sign).append(blank(random)).append(digit).append(blank(random));
            s.append(letters.charAt(n));
        }
        s.append(blank(random)).append(new String[] {"<", "<=", "="}[random.nextInt(3)]).append(blank(random));
        s.append(random.nextBoolean() ? "-" : "").append(blank(random));
        s.append(random.nextInt(12) == 0 ? random.nextInt(120) : random.nextInt(51));
        return s.append(blank(random)).append(';').toString();
    }

    /** Removes, replaces or inserts a byte, or cuts the text. */
    static String spoiled(Random random, String text) {
        String bytes = "xyz+-<=;0123456789()!&|  a/{~\t";
        char c = bytes.charAt(random.nextInt(bytes.length()));
        int p = random.nextInt(text.length() + 1);
        String head = text.substring(0, p);
        String tail = text.substring(p);
        switch (random.nextInt(4)) {
            case 0:
                return head;
            case 1:
                return head + c + tail;
            case 2:
                return head + (tail.isEmpty() ? "" : c + tail.substring(1));
            default:
                return head + (tail.isEmpty() ? "" : tail.substring(1));
        }
    }
}
