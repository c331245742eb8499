import java.math.BigDecimal;
import java.math.RoundingMode;
import java.util.Random;

/** Promise 5: turn. */
final class Promise05TurnTest {
    public static void main(String[] args) {
        for (long a : Check.edges()) {
            all(a);
        }
        Random random = new Random(6);
        for (int i = 0; i < 300000; i++) {
            all(Check.anyBits(random));
        }
        writtenOutCases();
        refusesWhatThereIsNot();
        Check.end();
    }

    private static void all(long a) {
        double x = Double.longBitsToDouble(a);
        due(a, 0, Math.sqrt(x));
        due(a, 1, withSignOf(Math.floor(x), x));
        due(a, 2, withSignOf(Math.ceil(x), x));
        due(a, 3, withSignOf(x < 0 ? Math.ceil(x) : Math.floor(x), x));
        due(a, 4, nearest(x));
        due(a, 5, -x);
        due(a, 6, Math.abs(x));
    }

    private static double nearest(double x) {
        if (Double.isNaN(x) || Double.isInfinite(x) || Math.abs(x) >= 0x1p52) {
            return x;
        }
        // What is nearer to 0 than a quarter would only make the decimal long.
        BigDecimal exact = Math.abs(x) < 0.25 ? BigDecimal.ZERO : new BigDecimal(x);
        BigDecimal floor = exact.add(new BigDecimal("0.5")).setScale(0, RoundingMode.FLOOR);
        return withSignOf(floor.doubleValue(), x);
    }

    private static double withSignOf(double result, double x) {
        return result == 0 ? Math.copySign(0.0, x) : result;
    }

    private static void due(long a, int what, double due) {
        Check.turnsBits(a, what, Double.doubleToLongBits(due));
    }

    private static void writtenOutCases() {
        due(Check.bits(-0.0), 0, -0.0);
        due(Check.bits(-Double.MIN_VALUE), 0, Double.NaN);
        due(Check.bits(Double.NEGATIVE_INFINITY), 0, Double.NaN);
        due(Check.bits(2), 0, Math.sqrt(2));
        due(Check.bits(-0.5), 2, -0.0);
        due(Check.bits(-0.5), 4, -0.0);
        due(Check.bits(-0.5000000000000001), 4, -1);
        due(Check.bits(0.49999999999999994), 4, 0);
        due(Check.bits(2.5), 4, 3);
        due(Check.bits(-2.5), 4, -2);
        due(Check.bits(-3.5), 4, -3);
        due(Check.bits(4503599627370495.5), 4, 4503599627370496.0);
        due(Check.bits(-Double.MIN_VALUE), 1, -1);
        due(0xFFF8000000000001L, 5, Double.NaN);
        due(0xFFF8000000000001L, 6, Double.NaN);
    }

    private static void refusesWhatThereIsNot() {
        for (int what : new int[] {-1, 7, 8, Integer.MAX_VALUE, Integer.MIN_VALUE}) {
            for (long a : new long[] {0, Check.bits(1), 0x7FF8000000000000L}) {
                Check.throwsJust("turn with what " + what, IllegalArgumentException.class,
                        () -> Check.subject(1).turn(a, what));
            }
        }
    }
}
