import java.math.BigInteger;
import java.util.ArrayList;
import java.util.List;

/** Promise 24: the checksum, put together here from the answers of the other calls. */
public final class DigestTest {
    private static final Check CHECK = new Check("DigestTest");
    private static final long NEW_OBJECT = -6930112698875863478L;
    private static final long TWELVE = 8775689424142844925L;
    private static final long TWELVE_AGAINST = -7878019990227949883L;

    public static void main(String[] args) {
        ofNewObject();
        ofTexts();
        overflow();
        eachValueCounts();
        callsThatItCounts();
        CHECK.end();
    }

    private static void ofNewObject() {
        RowsMeet fresh = new RowsMeet();
        long h = 2341;
        long[] values = {0, 0, 0, 0, 0, 0, 1, 3, 0, 1, 0, 1, 0, 1};
        for (long v : values) {
            h = 31 * h + v;
        }
        CHECK.due("digest of a new object", fresh.digest(), h);
        CHECK.due("digest changes nothing", fresh.digest(), h);
    }

    private static void ofTexts() {
        String[] texts = {"x<1;", "x<0;-x<0;y<1;", "2x+3y<7;-x<=5;y-z=0;", "x=1;x=2;y<0;", "0=9;", "-3x<-1;2x<1;",
            "x<=1;y<=1;z<=1;-x-y-z<=-4;y<9;"};
        for (String text : texts) {
            RowsMeet x = Check.with(text);
            x.sets(0, 2, 1);
            CHECK.due("digest of " + text, x.digest(), expected(x));
            x.told(99);
            x.back();
            x.clear();
            CHECK.due("digest after changes of " + text, x.digest(), expected(x));
        }
    }

    /** "with overflow": the exact sum is far above the numbers of a long, its low 64 bits are due. */
    private static void overflow() {
        CHECK.due("digest of a new object, worked out apart", new RowsMeet().digest(), NEW_OBJECT);
        RowsMeet x = full();
        BigInteger exact = exact(x);
        CHECK.holds("the exact sum has more than 400 bits", exact.bitLength() > 400);
        CHECK.due("digest of twelve constraints", x.digest(), exact.longValue());
        CHECK.due("digest of twelve constraints, worked out apart", x.digest(), TWELVE);
        x.sets(11, 1, -50);
        CHECK.due("unsatisfiable", x.can(4095), 0);
        CHECK.due("digest of twelve that do not meet", x.digest(), exact(x).longValue());
        CHECK.due("digest of twelve that do not meet, worked out apart", x.digest(), TWELVE_AGAINST);
    }

    /** Twelve constraints that hold together at (10, 0, -1/5), and each count above 0. */
    private static RowsMeet full() {
        RowsMeet x = new RowsMeet();
        x.row(1, 0, 0, 2, 10, 1);
        for (int n = 1; n < 11; n++) {
            x.row(-5, -5, -5, n % 2, n - 50, n % 2);
        }
        x.row(1, 0, 0, 1, 50, 0);
        x.row(1, 0, 0, 1, 50, 0);
        x.told(6);
        x.core(0);
        x.type('x');
        return x;
    }

    private static BigInteger exact(RowsMeet x) {
        BigInteger h = BigInteger.valueOf(2341);
        for (long v : values(x)) {
            h = h.multiply(BigInteger.valueOf(31)).add(BigInteger.valueOf(v));
        }
        return h;
    }

    /** Every count, every property of a constraint and every answer is in the sum. */
    private static void eachValueCounts() {
        RowsMeet x = Check.with("x<1;");
        long before = x.digest();
        x.told(6);
        // Behind told(0) follow five counts, six properties, and eight values of the solution set.
        CHECK.due("one BAD more", x.digest() - before, power(5 + 6 + 8));
        before = x.digest();
        x.core(0);
        CHECK.due("one NO more", x.digest() - before, power(4 + 6 + 8));
        before = x.digest();
        x.clear();
        CHECK.due("a text shorter by 4", x.digest() - before, -4 * power(2 + 6 + 8));
        before = x.digest();
        x.sets(0, 2, 1);
        CHECK.due("party 1, and one call more to undo", x.digest() - before, power(6 + 8) + power(8));
        before = x.digest();
        x.sets(0, 1, 2);
        // The canonical x goes from 0 to 1.
        CHECK.due("right side 2, and one more to undo", x.digest() - before, power(6 + 8) + power(1 + 8) + power(5));
        before = x.digest();
        x.sets(0, 0, 2);
        // The kind goes from 0 to 2, the dimension from 3 to 2, and x from 1 to 2.
        CHECK.due("kind same", x.digest() - before, power(6 + 8) + 2 * power(2 + 8) - power(6) + power(5));
        for (int n = 0; n < 80; n++) {
            x.type(' ');
        }
        before = x.digest();
        x.type(' ');
        CHECK.due("one FULL more", x.digest() - before, power(3 + 6 + 8));
    }

    private static long power(int n) {
        long p = 1;
        for (int k = 0; k < n; k++) {
            p *= 31;
        }
        return p;
    }

    /** A checksum is no call that returns an error code, and nothing that can be undone. */
    private static void callsThatItCounts() {
        RowsMeet x = Check.with("x<0;-x<0;y<3;");
        long first = x.digest();
        CHECK.due("digest again", x.digest(), first);
        for (int what = 0; what <= 2; what++) {
            CHECK.due("nothing is counted", x.told(what), 0);
        }
        CHECK.due("told(5)", x.told(5), 1);
        CHECK.due("digest is as put together", first, expected(x));
    }

    private static List<Long> values(RowsMeet x) {
        List<Long> all = new ArrayList<>();
        for (int what = 0; what <= 5; what++) {
            all.add((long) x.told(what));
        }
        int rows = x.told(4);
        int every = (1 << rows) - 1;
        for (int n = 0; n < rows * 6; n++) {
            all.add((long) x.of(n / 6, n % 6));
        }
        all.add((long) x.can(every));
        if (x.can(every) == 1) {
            all.add((long) x.dimension(every));
            for (int n = 0; n < 6; n++) {
                all.add(x.point(every, n / 2, n % 2));
            }
            return all;
        }
        all.add((long) x.core(every));
        for (int i = 0; i < rows; i++) {
            all.add((long) x.times(every, i));
        }
        return all;
    }

    private static long expected(RowsMeet x) {
        long h = 2341;
        for (long v : values(x)) {
            h = 31 * h + v;
        }
        return h;
    }
}
