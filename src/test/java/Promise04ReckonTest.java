import java.util.Random;

/** Promise 4: reckon. */
final class Promise04ReckonTest {
    public static void main(String[] args) {
        for (long a : Check.edges()) {
            for (long b : Check.edges()) {
                all(a, b);
            }
        }
        Random random = new Random(5);
        for (int i = 0; i < 300000; i++) {
            long a = Check.anyBits(random);
            all(a, Check.anyBits(random));
            all(a, near(a, random));
        }
        productsNearTheMiddle(random);
        writtenOutCases();
        refusesWhatThereIsNot();
        Check.end();
    }

    /** A number whose exponent is near, so that sums cancel and remainders have small quotients. */
    private static long near(long a, Random random) {
        long other = a + ((long) (random.nextInt(9) - 4) << 52) + random.nextInt(9) - 4;
        return random.nextBoolean() ? other : other ^ Long.MIN_VALUE;
    }

    /** Mantissas whose product ends in a half of the last place, one less or one more. */
    private static void productsNearTheMiddle(Random random) {
        for (int i = 0; i < 20000; i++) {
            long x = 1L << 52 | random.nextLong() >>> 12 | 1;
            long inverse = x;
            for (int k = 0; k < 6; k++) {
                inverse *= 2 - x * inverse;
            }
            for (long near = -2; near <= 2; near++) {
                long y = ((1L << 52) + near) * inverse & (1L << 53) - 1;
                all(Check.bits((double) x), Check.bits((double) y));
                y = ((1L << 51) + near) * inverse & (1L << 52) - 1 | 1L << 52;
                all(Check.bits((double) x), Check.bits(-(double) y));
            }
        }
    }

    private static void all(long a, long b) {
        double x = Double.longBitsToDouble(a);
        double y = Double.longBitsToDouble(b);
        due(a, b, 0, x + y);
        due(a, b, 1, x - y);
        due(a, b, 2, x * y);
        due(a, b, 3, x / y);
        due(a, b, 4, x % y);
    }

    private static void due(long a, long b, int what, double due) {
        Check.reckonsBits(a, b, what, Double.doubleToLongBits(due));
    }

    private static void writtenOutCases() {
        due(Check.bits(0.1), Check.bits(0.2), 0, 0.30000000000000004);
        due(Check.bits(-0.0), Check.bits(-0.0), 0, -0.0);
        due(Check.bits(-0.0), Check.bits(0.0), 0, 0.0);
        due(Check.bits(-0.0), Check.bits(0.0), 1, -0.0);
        due(Check.bits(5), Check.bits(5), 1, 0.0);
        due(Check.bits(-6), Check.bits(3), 4, -0.0);
        due(Check.bits(-0.0), Check.bits(3), 4, -0.0);
        due(Check.bits(1e308), Check.bits(Double.MIN_VALUE), 4, 1e308 % Double.MIN_VALUE);
        due(Check.bits(5), Check.bits(Double.NEGATIVE_INFINITY), 4, 5);
        due(Check.bits(-1), Check.bits(0.0), 3, Double.NEGATIVE_INFINITY);
        due(Check.bits(Double.MAX_VALUE), Check.bits(0x1p970), 0, Double.POSITIVE_INFINITY);
        due(Check.bits(Double.MAX_VALUE), Check.bits(Math.nextDown(0x1p970)), 0, Double.MAX_VALUE);
        due(Check.bits(Double.MIN_VALUE), Check.bits(0.5), 2, 0.0);
        due(Check.bits(-Double.MIN_VALUE), Check.bits(0.75), 2, -Double.MIN_VALUE);
    }

    private static void refusesWhatThereIsNot() {
        for (int what : new int[] {-1, 5, 6, Integer.MAX_VALUE, Integer.MIN_VALUE}) {
            for (long a : new long[] {0, Check.bits(1), 0x7FF8000000000000L}) {
                Check.throwsJust("reckon with what " + what, IllegalArgumentException.class,
                        () -> Check.subject(1).reckon(a, a, what));
            }
        }
    }
}
