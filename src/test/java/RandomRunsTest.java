import java.util.Random;

/** Random runs of calls (with fixed seeds) on the class and on the slow model side by side. */
public final class RandomRunsTest {
    /** An object is used for 512 calls; the last step may type a text. */
    private static final int MOST_CALLS = 420, MOST_TYPED = 85;

    private final Check check;
    private final Random random;
    private final RowsMeet fast = new RowsMeet();
    private final Slow slow = new Slow();
    private final int seed;
    private final int style;
    private final StringBuilder calls = new StringBuilder();
    private int made;

    private RandomRunsTest(Check check, int seed) {
        this.check = check;
        this.seed = seed;
        random = new Random(seed);
        style = random.nextInt(6);
    }

    public static void main(String[] args) {
        int first = args.length > 0 ? Integer.parseInt(args[0]) : 0;
        int runs = args.length > 1 ? Integer.parseInt(args[1]) : 250;
        Check check = new Check("RandomRunsTest");
        for (int seed = first; seed < first + runs && !check.hasFailed(); seed++) {
            new RandomRunsTest(check, seed).run(120);
        }
        check.end();
    }

    private void run(int length) {
        for (int n = 0; n < length && made < MOST_CALLS && !check.hasFailed(); n++) {
            step();
        }
        due("digest()", fast.digest(), slow.digest());
    }

    private void due(String call, long got, long want) {
        made++;
        calls.append(call).append(' ');
        check.due("seed " + seed + ": " + (got == want ? call : calls), got, want);
    }

    private int rows() {
        return slow.told(4);
    }

    private int upTo(int n) {
        return random.nextInt(n + 1);
    }

    /** Mostly a value in range, seldom one just outside or far away. */
    private int about(int least, int most) {
        switch (random.nextInt(60)) {
            case 0:
                return least - 1;
            case 1:
                return most + 1;
            case 2:
                return random.nextInt();
            default:
                return least + random.nextInt(most - least + 1);
        }
    }

    private int set() {
        int every = (1 << rows()) - 1;
        switch (random.nextInt(20)) {
            case 0:
                return random.nextInt(1 << 13);
            case 1:
                return every + 1;
            case 2:
                return random.nextInt();
            case 3, 4, 5, 6, 7:
                return every;
            case 8, 9:
                return every & ~(1 << upTo(12));
            default:
                return random.nextInt(every + 1);
        }
    }

    private int factor() {
        switch (style) {
            case 0:
                return random.nextInt(3) - 1;
            case 1:
                return random.nextInt(3) == 0 ? random.nextInt(11) - 5 : 0;
            case 2:
                return (random.nextBoolean() ? 1 : -1) * (3 + random.nextInt(3));
            default:
                return random.nextInt(11) - 5;
        }
    }

    private int right() {
        switch (style) {
            case 0:
                return random.nextInt(7) - 3;
            case 3:
                return random.nextInt(3) - 1;
            case 4:
                return 40 + random.nextInt(11);
            default:
                return random.nextInt(101) - 50;
        }
    }

    private int kind() {
        return style == 5 ? random.nextInt(8) == 0 ? 2 : random.nextInt(10) == 0 ? 1 : 0 : random.nextInt(3) == 0
                ? random.nextInt(3) : random.nextInt(2);
    }

    private void addRow() {
        int a = random.nextInt(50) == 0 ? about(-5, 5) : factor();
        int b = random.nextInt(50) == 0 ? about(-5, 5) : factor();
        int c = random.nextInt(50) == 0 ? about(-5, 5) : factor();
        int kind = random.nextInt(20) == 0 ? about(0, 2) : kind();
        int d = random.nextInt(20) == 0 ? about(-50, 50) : right();
        int party = about(0, 1);
        due("row(" + a + "," + b + "," + c + "," + kind + "," + d + "," + party + ")",
                fast.row(a, b, c, kind, d, party), slow.row(a, b, c, kind, d, party));
    }

    private void step() {
        int which = random.nextInt(34);
        if (which < 7 && rows() < 4 + upTo(8)) {
            addRow();
        } else if (which < 10) {
            change();
        } else if (which < 22) {
            ask();
        } else if (which < 26) {
            askUnsatisfiable();
        } else if (which < 31) {
            askText();
        } else {
            state();
        }
    }

    private void change() {
        int i = about(0, Math.max(0, rows() - 1));
        if (random.nextInt(3) == 0) {
            due("drops(" + i + ")", fast.drops(i), slow.drops(i));
            return;
        }
        int what = about(0, 2);
        int v = what == 1 ? about(-50, 50) : about(0, what == 0 ? 2 : 1);
        due("sets(" + i + "," + what + "," + v + ")", fast.sets(i, what, v), slow.sets(i, what, v));
    }

    private void ask() {
        int set = set();
        int i = about(0, Math.max(0, rows() - 1));
        int k = about(0, 2);
        switch (random.nextInt(8)) {
            case 0 -> due("can(" + set + ")", fast.can(set), slow.can(set));
            case 1 -> due("dimension(" + set + ")", fast.dimension(set), slow.dimension(set));
            case 2 -> {
                int up = about(0, 1);
                int what = about(0, 2);
                due("bound(" + set + "," + k + "," + up + "," + what + ")",
                        fast.bound(set, k, up, what), slow.bound(set, k, up, what));
            }
            case 3 -> due("brings(" + set + "," + i + ")", fast.brings(set, i), slow.brings(set, i));
            case 4 -> due("spare(" + set + ")", fast.spare(set), slow.spare(set));
            case 5 -> {
                int other = random.nextBoolean() ? set & ~(1 << upTo(11)) : set();
                due("same(" + set + "," + other + ")", fast.same(set, other), slow.same(set, other));
            }
            case 6 -> {
                int what = about(0, 1);
                due("point(" + set + "," + k + "," + what + ")", fast.point(set, k, what), slow.point(set, k, what));
            }
            default -> {
                int few = set & random.nextInt() & random.nextInt();
                int asked = random.nextInt(4) == 0 ? set : few;
                due("sides(" + asked + ")", fast.sides(asked), slow.sides(asked));
            }
        }
    }

    private void askUnsatisfiable() {
        int set = set();
        int i = about(0, Math.max(0, rows() - 1));
        int what = about(0, 4);
        switch (random.nextInt(3)) {
            case 0 -> due("core(" + set + ")", fast.core(set), slow.core(set));
            case 1 -> due("times(" + set + "," + i + ")", fast.times(set, i), slow.times(set, i));
            default -> due("between(" + what + ")", fast.between(what), slow.between(what));
        }
    }

    private void askText() {
        boolean formula = random.nextBoolean();
        String text = formula ? Texts.formula(random, rows()) : Texts.orders(random);
        if (random.nextInt(3) == 0) {
            text = Texts.spoiled(random, text);
        }
        text = text.substring(0, Math.min(text.length(), MOST_TYPED));
        due("clear()", fast.clear(), slow.clear());
        for (int p = 0; p < text.length(); p++) {
            int c = text.charAt(p);
            due("type(" + c + ")", fast.type(c), slow.type(c));
        }
        if (formula) {
            int what = about(0, 2);
            due("formula(" + what + ")", fast.formula(what), slow.formula(what));
        } else {
            due("reads()", fast.reads(), slow.reads());
        }
    }

    private void state() {
        int i = about(0, Math.max(0, rows() - 1));
        int what = about(0, 5);
        int j = about(0, 14);
        switch (random.nextInt(6)) {
            case 0 -> due("of(" + i + "," + what + ")", fast.of(i, what), slow.of(i, what));
            case 1 -> due("told(" + what + ")", fast.told(what), slow.told(what));
            case 2 -> due("shown(" + i + "," + j + ")", fast.shown(i, j), slow.shown(i, j));
            case 3 -> due("back()", fast.back(), slow.back());
            case 4 -> {
                int c = about(0, 127);
                due("type(" + c + ")", fast.type(c), slow.type(c));
            }
            default -> due("digest()", fast.digest(), slow.digest());
        }
    }
}
