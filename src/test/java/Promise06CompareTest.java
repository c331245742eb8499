import java.util.Random;

/** Promise 6: compare. */
final class Promise06CompareTest {
    public static void main(String[] args) {
        for (long a : Check.edges()) {
            for (long b : Check.edges()) {
                due(a, b);
            }
        }
        Random random = new Random(7);
        for (int i = 0; i < 200000; i++) {
            long a = Check.anyBits(random);
            due(a, Check.anyBits(random));
            due(a, a);
            due(a, a + 1);
        }
        Subject x = new Subject();
        Check.same("the zeros", x.compare(0, Long.MIN_VALUE), 0);
        Check.same("1 and 2", x.compare(Check.bits(1), Check.bits(2)), -1);
        Check.same("-1 and -2", x.compare(Check.bits(-1), Check.bits(-2)), 1);
        Check.same("NAN and itself", x.compare(Check.NAN, Check.NAN), 2);
        Check.end();
    }

    private static void due(long a, long b) {
        double x = Double.longBitsToDouble(a);
        double y = Double.longBitsToDouble(b);
        int due = x < y ? -1 : x == y ? 0 : x > y ? 1 : 2;
        Check.same("compare(" + Long.toHexString(a) + ", " + Long.toHexString(b) + ")",
                Check.subject(1).compare(a, b), due);
    }
}
