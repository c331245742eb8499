import java.math.BigDecimal;
import java.math.BigInteger;
import java.util.Random;

/** Promise 7: whole. */
final class Promise07WholeTest {
    public static void main(String[] args) {
        for (long a : Check.edges()) {
            all(a);
        }
        for (int power = 0; power < 100; power++) {
            for (double near : new double[] {-1, -0.5, 0, 0.5, 1}) {
                all(Check.bits(Math.scalb(1.0, power) + near));
                all(Check.bits(-Math.scalb(1.0, power) + near));
                all(Check.bits(Math.scalb(4503599627370497.0 + 2 * near, power - 20)));
            }
        }
        Random random = new Random(8);
        for (int i = 0; i < 50000; i++) {
            all(Check.anyBits(random));
            all(random.nextLong() & 0x800FFFFFFFFFFFFFL | (long) (1023 + random.nextInt(90)) << 52);
        }
        writtenOutCases();
        refusesWhatThereIsNot();
        Check.end();
    }

    private static void all(long a) {
        double x = Double.longBitsToDouble(a);
        BigInteger cut = BigInteger.ZERO;
        if (!Double.isNaN(x) && !Double.isInfinite(x)) {
            cut = new BigDecimal(x).toBigInteger();
        }
        due(a, 0, cut.intValue());
        due(a, 1, cut.mod(BigInteger.ONE.shiftLeft(32)).longValue());
        due(a, 2, cut.mod(BigInteger.ONE.shiftLeft(16)).longValue());
    }

    private static void due(long a, int what, long due) {
        Check.same("whole(" + Long.toHexString(a) + ", " + what + ")", Check.subject(1).whole(a, what), due);
    }

    private static void writtenOutCases() {
        due(Check.bits(2147483648.0), 0, -2147483648L);
        due(Check.bits(-2147483649.0), 0, 2147483647L);
        due(Check.bits(-1.9), 1, 4294967295L);
        due(Check.bits(-1.9), 2, 65535);
        due(Check.bits(-0.9), 2, 0);
        due(Check.bits(0x1p84), 1, 0);
        due(Check.bits(0x1.0000000000001p83), 1, 0x80000000L);
    }

    private static void refusesWhatThereIsNot() {
        for (int what : new int[] {-1, 3, 4, Integer.MAX_VALUE, Integer.MIN_VALUE}) {
            for (long a : new long[] {0, Check.bits(1), 0x7FF8000000000000L}) {
                Check.throwsJust("whole with what " + what, IllegalArgumentException.class,
                        () -> Check.subject(1).whole(a, what));
            }
        }
    }
}
