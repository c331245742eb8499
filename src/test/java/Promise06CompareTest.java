import java.util.Random;

/** Promise 6: compare. */
final class Promise06CompareTest {
    private static final DoubleBits X = new DoubleBits();

    public static void main(String[] args) {
        for (long a : Check.edges()) {
            for (long b : Check.edges()) {
                due(a, b);
            }
        }
        Random random = new Random(7);
        for (int i = 0; i < 200000; i++) {
            long a = Check.anyBits(random);
            due(a, Check.anyBits(random));
            due(a, a);
            due(a, a + 1);
        }
        Check.same("the zeros", X.compare(0, Long.MIN_VALUE), 0);
        Check.same("1 and 2", X.compare(Check.bits(1), Check.bits(2)), -1);
        Check.same("-1 and -2", X.compare(Check.bits(-1), Check.bits(-2)), 1);
        Check.same("NAN and itself", X.compare(0x7FF8000000000000L, 0x7FF8000000000000L), 2);
        Check.end();
    }

    private static void due(long a, long b) {
        double x = Double.longBitsToDouble(a);
        double y = Double.longBitsToDouble(b);
        int due = x < y ? -1 : x == y ? 0 : x > y ? 1 : 2;
        Check.same("compare(" + Long.toHexString(a) + ", " + Long.toHexString(b) + ")", X.compare(a, b), due);
    }
}
