import java.math.BigDecimal;
import java.math.BigInteger;
import java.math.MathContext;
import java.math.RoundingMode;
import java.util.Random;

/** Promise 9: write. */
final class Promise09WriteTest {
    public static void main(String[] args) {
        writtenOutCases();
        for (long a : Check.edges()) {
            asDefined(a);
        }
        for (int field = 0; field < 2047; field++) {
            asDefined((long) field << 52);
            asDefined(((long) field << 52) + 1);
            asDefined(((long) field << 52) - 1);
        }
        for (long a = 0; a < 300; a++) {
            asDefined(a);
        }
        for (int power = -330; power < 310; power++) {
            long a = Check.bits(Double.parseDouble("1e" + power));
            for (long near = -2; near <= 2; near++) {
                asDefined(a + near);
            }
        }
        Random random = new Random(10);
        for (int i = 0; i < 30000; i++) {
            asDefined(Check.anyBits(random));
        }
        Check.end();
    }

    private static void dueBits(long a, String due) {
        Check.writesBits(a, due);
    }

    private static void due(double a, String due) {
        dueBits(Check.bits(a), due);
    }

    private static void writtenOutCases() {
        dueBits(0x7FF8000000000000L, "NaN");
        dueBits(0xFFF0000000000001L, "NaN");
        due(Double.POSITIVE_INFINITY, "Infinity");
        due(Double.NEGATIVE_INFINITY, "-Infinity");
        due(0.0, "0");
        due(-0.0, "0");
        due(-1, "-1");
        due(0.1 + 0.2, "0.30000000000000004");
        due(123456789012345680000.0, "123456789012345680000");
        due(1e21, "1e+21");
        due(Math.nextDown(1e21), "999999999999999900000");
        due(-1.5e21, "-1.5e+21");
        due(0.000001, "0.000001");
        due(0.00000123, "0.00000123");
        due(0.0000001, "1e-7");
        due(1.25e-7, "1.25e-7");
        due(100, "100");
        due(12.5, "12.5");
        due(5e-324, "5e-324");
        due(2 * 5e-324, "1e-323");
        due(-Double.MAX_VALUE, "-1.7976931348623157e+308");
        due(Double.MIN_NORMAL, "2.2250738585072014e-308");
        due(1e23, "1e+23");
        due(9007199254740993.0, "9007199254740992");
        due(0x1p-1074 * 3, "1.5e-323");
        due(5e-10, "5e-10");
        due(0x1p60, "1152921504606847000");
        due(0x1p-44, "5.684341886080802e-14");
    }

    /** The document's words, tried out digit count by digit count. */
    private static void asDefined(long a) {
        double number = Double.longBitsToDouble(a);
        if (Double.isNaN(number)) {
            dueBits(a, "NaN");
        } else if (number == 0) {
            dueBits(a, "0");
        } else if (number < 0) {
            dueBits(a, "-" + textOf(-number));
        } else {
            dueBits(a, textOf(number));
        }
    }

    private static String textOf(double number) {
        if (Double.isInfinite(number)) {
            return "Infinity";
        }
        BigDecimal exact = new BigDecimal(number);
        for (int k = 1; k <= 17; k++) {
            BigDecimal down = exact.round(new MathContext(k, RoundingMode.DOWN));
            BigDecimal up = exact.round(new MathContext(k, RoundingMode.UP));
            boolean downFits = down.doubleValue() == number;
            boolean upFits = up.doubleValue() == number;
            if (downFits || upFits) {
                int order = exact.subtract(down).compareTo(up.subtract(exact));
                boolean downIsEven = !down.unscaledValue().testBit(0);
                boolean takesDown = downFits && (!upFits || order < 0 || order == 0 && downIsEven);
                return laidOut(takesDown ? down : up);
            }
        }
        throw new IllegalStateException("17 digits did not do");
    }

    private static String laidOut(BigDecimal value) {
        BigDecimal bare = value.stripTrailingZeros();
        BigInteger s = bare.unscaledValue();
        String digits = s.toString();
        int k = digits.length();
        int n = k - bare.scale();
        if (k <= n && n <= 21) {
            return digits + "0".repeat(n - k);
        }
        if (0 < n && n <= 21) {
            return digits.substring(0, n) + "." + digits.substring(n);
        }
        if (-6 < n && n <= 0) {
            return "0." + "0".repeat(-n) + digits;
        }
        String others = k > 1 ? "." + digits.substring(1) : "";
        return digits.charAt(0) + others + "e" + (n - 1 < 0 ? "-" : "+") + Math.abs(n - 1);
    }
}
