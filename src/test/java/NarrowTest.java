import java.util.ArrayList;
import java.util.Comparator;
import java.util.List;
import java.util.Random;

/**
 * Systems with tiny solution sets, made of the rows that pass closest to a point: their canonical
 * solutions and bounds have large denominators, which must not overflow.
 */
public final class NarrowTest {
    public static void main(String[] args) {
        int first = args.length > 0 ? Integer.parseInt(args[0]) : 0;
        int runs = args.length > 1 ? Integer.parseInt(args[1]) : 40;
        Check check = new Check("NarrowTest");
        long greatest = 0;
        for (int seed = first; seed < first + runs && !check.hasFailed(); seed++) {
            greatest = Math.max(greatest, compare(check, new Random(seed), seed));
        }
        check.holds("the denominators are large, up to " + greatest, greatest > 3000);
        System.out.println("NarrowTest: greatest denominator " + greatest);
        check.end();
    }

    private static long compare(Check check, Random random, int seed) {
        RowsMeet fast = new RowsMeet();
        Slow slow = new Slow();
        int strict = random.nextInt(4);
        for (int[] r : closest(random)) {
            int kind = random.nextInt(4) < strict ? 0 : random.nextInt(12) == 0 ? 2 : random.nextInt(2);
            check.due("row", fast.row(r[0], r[1], r[2], kind, r[3], 0), slow.row(r[0], r[1], r[2], kind, r[3], 0));
        }
        int every = (1 << fast.told(4)) - 1;
        long greatest = 0;
        for (int n = 0; n < 3; n++) {
            int set = n == 0 ? every : every & ~(1 << random.nextInt(12)) & ~(1 << random.nextInt(12));
            for (int k = 0; k < 3; k++) {
                String where = "seed " + seed + ", set " + set + ", k " + k;
                check.due("point, " + where, fast.point(set, k, 0), slow.point(set, k, 0));
                long bottom = fast.point(set, k, 1);
                check.due("point, " + where, bottom, slow.point(set, k, 1));
                greatest = Math.max(greatest, bottom);
                for (int up = 0; up < 2; up++) {
                    for (int what = 0; what < 3; what++) {
                        check.due("bound " + up + " " + what + ", " + where,
                                fast.bound(set, k, up, what), slow.bound(set, k, up, what));
                    }
                }
            }
        }
        check.due("digest, seed " + seed, fast.digest(), slow.digest());
        return greatest;
    }

    private static List<int[]> closest(Random random) {
        double[] p = {random.nextDouble() * 6 - 3, random.nextDouble() * 6 - 3, random.nextDouble() * 6 - 3};
        int least = random.nextInt(3);
        record Near(double gap, int[] row) {
        }
        List<Near> all = new ArrayList<>();
        for (int n = 0; n < 1331; n++) {
            int[] f = {n % 11 - 5, n / 11 % 11 - 5, n / 121 - 5};
            double at = f[0] * p[0] + f[1] * p[1] + f[2] * p[2];
            int right = (int) Math.floor(at) + 1;
            if (Math.abs(right) <= 50 && Math.abs(f[0]) + Math.abs(f[1]) + Math.abs(f[2]) > 3 * least) {
                all.add(new Near(right - at, new int[] {f[0], f[1], f[2], right}));
            }
        }
        all.sort(Comparator.comparingDouble(Near::gap));
        List<int[]> rows = new ArrayList<>();
        int skip = 1 + random.nextInt(3);
        for (int n = 0; rows.size() < 12; n += 1 + random.nextInt(skip)) {
            rows.add(all.get(n).row());
        }
        return rows;
    }
}
