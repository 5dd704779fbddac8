/** Promise 24: the checksum, put together here from the answers of the other calls. */
public final class DigestTest {
    private static final Check CHECK = new Check("DigestTest");

    public static void main(String[] args) {
        RowsMeet fresh = new RowsMeet();
        long h = 2341;
        long[] values = {0, 0, 0, 0, 0, 0, 1, 3, 0, 1, 0, 1, 0, 1};
        for (long v : values) {
            h = 31 * h + v;
        }
        CHECK.due("digest of a new object", fresh.digest(), h);
        CHECK.due("digest changes nothing", fresh.digest(), h);
        String[] texts = {"x<1;", "x<0;-x<0;y<1;", "2x+3y<7;-x<=5;y-z=0;", "x=1;x=2;y<0;", "0=9;", "-3x<-1;2x<1;",
            "x<=1;y<=1;z<=1;-x-y-z<=-4;y<9;"};
        for (String text : texts) {
            RowsMeet x = Check.with(text);
            x.sets(0, 2, 1);
            CHECK.due("digest of " + text, x.digest(), expected(x));
            x.told(99);
            x.back();
            x.clear();
            CHECK.due("digest after changes of " + text, x.digest(), expected(x));
        }
        CHECK.end();
    }

    private static long expected(RowsMeet x) {
        long h = 2341;
        for (int what = 0; what <= 5; what++) {
            h = 31 * h + x.told(what);
        }
        int rows = x.told(4);
        int every = (1 << rows) - 1;
        for (int n = 0; n < rows * 6; n++) {
            h = 31 * h + x.of(n / 6, n % 6);
        }
        h = 31 * h + x.can(every);
        if (x.can(every) == 1) {
            h = 31 * h + x.dimension(every);
            for (int n = 0; n < 6; n++) {
                h = 31 * h + x.point(every, n / 2, n % 2);
            }
            return h;
        }
        h = 31 * h + x.core(every);
        for (int i = 0; i < rows; i++) {
            h = 31 * h + x.times(every, i);
        }
        return h;
    }
}
