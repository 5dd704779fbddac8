import java.util.ArrayList;
import java.util.List;

/**
 * Exact linear programs in three free variables by the simplex method with Bland's rule: another
 * way than the class's own, so that both do not share their faults.
 */
final class Simplex {
    /** factors * (x, y, z) is less than, at most or equal to right (kind 0, 1, 2). */
    record Line(Ratio[] factors, Ratio right, int kind) {
        Line negated(int newKind) {
            return new Line(new Ratio[] {factors[0].negate(), factors[1].negate(), factors[2].negate()},
                    right.negate(), newKind);
        }

        Line as(int newKind) {
            return new Line(factors, right, newKind);
        }
    }

    /** The variables: x, y and z as differences of two each, then the gap of strict lines. */
    private static final int VARIABLES = 7, GAP = 6;

    private final Ratio[][] table;
    private final int[] basic;
    private final int[] free;
    private final int height;

    private Simplex(List<Ratio[]> rows, Ratio[] goal) {
        height = rows.size();
        table = new Ratio[height + 2][VARIABLES + 2];
        basic = new int[height];
        free = new int[VARIABLES + 1];
        for (int i = 0; i < height; i++) {
            for (int j = 0; j < VARIABLES; j++) {
                table[i][j] = rows.get(i)[j];
            }
            table[i][VARIABLES] = Ratio.of(-1);
            table[i][VARIABLES + 1] = rows.get(i)[VARIABLES];
            basic[i] = VARIABLES + i;
        }
        for (int j = 0; j < VARIABLES + 2; j++) {
            table[height][j] = j < VARIABLES ? goal[j].negate() : Ratio.ZERO;
            table[height + 1][j] = j == VARIABLES ? Ratio.ONE : Ratio.ZERO;
        }
        for (int j = 0; j < VARIABLES; j++) {
            free[j] = j;
        }
        free[VARIABLES] = -1;
    }

    /** A point at which all lines hold, or null. */
    static Ratio[] solve(List<Line> lines) {
        Ratio[] goal = zeros(VARIABLES);
        goal[GAP] = Ratio.ONE;
        Ratio[] best = maximize(lines, goal, true);
        if (best == null || best[GAP].signum() <= 0) {
            return null;
        }
        return new Ratio[] {best[0].minus(best[1]), best[2].minus(best[3]), best[4].minus(best[5])};
    }

    /** The supremum of sign * variable k over a satisfiable system, or null. */
    static Ratio supremum(List<Line> lines, int k, int sign) {
        Ratio[] goal = zeros(VARIABLES);
        goal[2 * k] = Ratio.of(sign);
        goal[2 * k + 1] = Ratio.of(-sign);
        Ratio[] best = maximize(lines, goal, false);
        return best == null ? null : best[2 * k].minus(best[2 * k + 1]);
    }

    private static Ratio[] zeros(int n) {
        Ratio[] all = new Ratio[n];
        java.util.Arrays.fill(all, Ratio.ZERO);
        return all;
    }

    private static Ratio[] maximize(List<Line> lines, Ratio[] goal, boolean withGap) {
        List<Ratio[]> rows = new ArrayList<>();
        for (Line line : lines) {
            rows.add(row(line, withGap && line.kind() == 0));
            if (line.kind() == 2) {
                rows.add(row(line.negated(2), false));
            }
        }
        Ratio[] limit = zeros(VARIABLES + 1);
        limit[GAP] = Ratio.ONE;
        limit[VARIABLES] = Ratio.ONE;
        rows.add(limit);
        return new Simplex(rows, goal).run();
    }

    private static Ratio[] row(Line line, boolean strict) {
        Ratio[] row = zeros(VARIABLES + 1);
        for (int k = 0; k < 3; k++) {
            row[2 * k] = line.factors()[k];
            row[2 * k + 1] = line.factors()[k].negate();
        }
        row[GAP] = strict ? Ratio.ONE : Ratio.ZERO;
        row[VARIABLES] = line.right();
        return row;
    }

    /** The values of the variables at the best point; null if there is none or no bound. */
    private Ratio[] run() {
        int worst = 0;
        for (int i = 1; i < height; i++) {
            if (table[i][VARIABLES + 1].compareTo(table[worst][VARIABLES + 1]) < 0) {
                worst = i;
            }
        }
        if (table[worst][VARIABLES + 1].signum() < 0) {
            pivot(worst, VARIABLES);
            if (!climb(height + 1, true) || table[height + 1][VARIABLES + 1].signum() != 0) {
                return null;
            }
            for (int i = 0; i < height; i++) {
                if (basic[i] == -1) {
                    leave(i);
                }
            }
        }
        if (!climb(height, false)) {
            return null;
        }
        Ratio[] values = zeros(VARIABLES);
        for (int i = 0; i < height; i++) {
            if (basic[i] >= 0 && basic[i] < VARIABLES) {
                values[basic[i]] = table[i][VARIABLES + 1];
            }
        }
        return values;
    }

    private void leave(int i) {
        for (int j = 0; j <= VARIABLES; j++) {
            if (table[i][j].signum() != 0) {
                pivot(i, j);
                return;
            }
        }
    }

    private boolean climb(int goal, boolean first) {
        while (true) {
            int entering = -1;
            for (int j = 0; j <= VARIABLES; j++) {
                if ((first || free[j] != -1) && table[goal][j].signum() < 0
                        && (entering < 0 || free[j] < free[entering])) {
                    entering = j;
                }
            }
            if (entering < 0) {
                return true;
            }
            int leaving = leavingFor(entering);
            if (leaving < 0) {
                return false;
            }
            pivot(leaving, entering);
        }
    }

    private int leavingFor(int entering) {
        int leaving = -1;
        Ratio least = null;
        for (int i = 0; i < height; i++) {
            if (table[i][entering].signum() > 0) {
                Ratio ratio = table[i][VARIABLES + 1].over(table[i][entering]);
                int order = least == null ? -1 : ratio.compareTo(least);
                if (order < 0 || order == 0 && basic[i] < basic[leaving]) {
                    leaving = i;
                    least = ratio;
                }
            }
        }
        return leaving;
    }

    private void pivot(int r, int s) {
        Ratio inverse = Ratio.ONE.over(table[r][s]);
        for (int i = 0; i < height + 2; i++) {
            if (i == r || table[i][s].signum() == 0) {
                continue;
            }
            Ratio share = table[i][s].times(inverse);
            for (int j = 0; j < VARIABLES + 2; j++) {
                if (j != s) {
                    table[i][j] = table[i][j].minus(table[r][j].times(share));
                }
            }
            table[i][s] = share.negate();
        }
        for (int j = 0; j < VARIABLES + 2; j++) {
            if (j != s) {
                table[r][j] = table[r][j].times(inverse);
            }
        }
        table[r][s] = inverse;
        int moved = basic[r];
        basic[r] = free[s];
        free[s] = moved;
    }
}
