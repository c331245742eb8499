import java.math.BigDecimal;
import java.math.MathContext;
import java.math.RoundingMode;
import java.util.Random;

/** Promise 11: form. */
final class Promise11FormTest {
    private static final int FIXED = 0;
    private static final int EXPONENTIAL = 1;
    private static final int PRECISE = 2;

    public static void main(String[] args) {
        writtenOutFixed();
        writtenOutExponential();
        writtenOutPrecise();
        for (long a : Check.edges()) {
            for (int digits = -1; digits <= 21; digits++) {
                asDefined(a, digits);
            }
        }
        Random random = new Random(12);
        for (int i = 0; i < 60000; i++) {
            asDefined(Check.anyBits(random), random.nextInt(23) - 1);
            asDefined(half(random), random.nextInt(23) - 1);
        }
        refusesWhatThereIsNot();
        Check.end();
    }

    /** Numbers such as 0.125 and 4.5, which lie half-way between two texts. */
    private static long half(Random random) {
        return Check.bits((2 * random.nextInt(10000) - 9999) / (double) (1 << 1 + random.nextInt(12)));
    }

    private static void dueBits(long a, int form, int digits, String due) {
        Check.formsBits(a, form, digits, due);
    }

    private static void due(double a, int form, int digits, String due) {
        dueBits(Check.bits(a), form, digits, due);
    }

    private static void writtenOutFixed() {
        dueBits(0xFFF8000000000000L, FIXED, 3, "NaN");
        due(Double.POSITIVE_INFINITY, FIXED, 3, "Infinity");
        due(Double.NEGATIVE_INFINITY, FIXED, 0, "-Infinity");
        due(0.0, FIXED, 0, "0");
        due(-0.0, FIXED, 2, "0.00");
        due(-0.0000001, FIXED, 2, "-0.00");
        due(-Double.MIN_VALUE, FIXED, 0, "-0");
        due(0.5, FIXED, 0, "1");
        due(1.5, FIXED, 0, "2");
        due(2.5, FIXED, 0, "3");
        due(-2.5, FIXED, 0, "-3");
        due(1.005, FIXED, 2, "1.00");
        due(0.05, FIXED, 1, "0.1");
        due(0.04, FIXED, 1, "0.0");
        due(9.995, FIXED, 2, "9.99");
        due(99.96875, FIXED, 1, "100.0");
        due(0.96875, FIXED, 1, "1.0");
        due(123.456, FIXED, 20, "123.45600000000000306954");
        due(1e-20, FIXED, 20, "0.00000000000000000001");
        due(4e-21, FIXED, 20, "0.00000000000000000000");
        due(Math.nextDown(1e21), FIXED, 2, "999999999999999868928.00");
        due(1e21, FIXED, 20, "1e+21");
        due(-1.5e300, FIXED, 0, "-1.5e+300");
        due(123456789012345680000.0, FIXED, 1, "123456789012345683968.0");
    }

    private static void writtenOutExponential() {
        dueBits(0x7FF0000000000001L, EXPONENTIAL, 3, "NaN");
        due(Double.NEGATIVE_INFINITY, EXPONENTIAL, -1, "-Infinity");
        due(0.0, EXPONENTIAL, -1, "0e+0");
        due(0.0, EXPONENTIAL, 0, "0e+0");
        due(-0.0, EXPONENTIAL, 2, "0.00e+0");
        due(1, EXPONENTIAL, 0, "1e+0");
        due(12345, EXPONENTIAL, -1, "1.2345e+4");
        due(12345, EXPONENTIAL, 3, "1.235e+4");
        due(-12345, EXPONENTIAL, 3, "-1.235e+4");
        due(25, EXPONENTIAL, 0, "3e+1");
        due(9.5, EXPONENTIAL, 0, "1e+1");
        due(99.96875, EXPONENTIAL, 2, "1.00e+2");
        due(0.00015, EXPONENTIAL, 20, "1.49999999999999986859e-4");
        due(Double.MIN_VALUE, EXPONENTIAL, -1, "5e-324");
        due(Double.MIN_VALUE, EXPONENTIAL, 20, "4.94065645841246544177e-324");
        due(Double.MAX_VALUE, EXPONENTIAL, 2, "1.80e+308");
        due(1e21, EXPONENTIAL, -1, "1e+21");
        due(1e10, EXPONENTIAL, 1, "1.0e+10");
    }

    private static void writtenOutPrecise() {
        dueBits(0x7FF0000000000001L, PRECISE, 3, "NaN");
        due(Double.POSITIVE_INFINITY, PRECISE, 1, "Infinity");
        due(0.0, PRECISE, 1, "0");
        due(-0.0, PRECISE, 4, "0.000");
        due(123.456, PRECISE, 4, "123.5");
        due(123.456, PRECISE, 3, "123");
        due(123.456, PRECISE, 2, "1.2e+2");
        due(-123.456, PRECISE, 1, "-1e+2");
        due(0.000001, PRECISE, 2, "0.0000010");
        due(0.0000001, PRECISE, 2, "1.0e-7");
        due(0.00000099, PRECISE, 1, "0.000001");
        due(99.5, PRECISE, 2, "1.0e+2");
        due(99.5, PRECISE, 3, "99.5");
        due(1e20, PRECISE, 21, "100000000000000000000");
        due(1e21, PRECISE, 21, "1.00000000000000000000e+21");
        due(0.1, PRECISE, 21, "0.100000000000000005551");
        due(1.25, PRECISE, 2, "1.3");
        due(5, PRECISE, 1, "5");
        due(10, PRECISE, 1, "1e+1");
    }

    private static void asDefined(long a, int digits) {
        double number = Double.longBitsToDouble(a);
        if (digits >= 0 && digits <= 20) {
            dueBits(a, FIXED, digits, withSign(number, fixed(Math.abs(number), digits)));
        }
        if (digits <= 20) {
            dueBits(a, EXPONENTIAL, digits, withSign(number, exponential(Math.abs(number), digits)));
        }
        if (digits >= 1) {
            dueBits(a, PRECISE, digits, withSign(number, precise(Math.abs(number), digits)));
        }
    }

    private static String withSign(double number, String text) {
        return number < 0 ? "-" + text : text;
    }

    private static boolean isOdd(double number) {
        return Double.isNaN(number) || Double.isInfinite(number);
    }

    /** Texts as such are promise 9's: there they are tried against the document's words. */
    private static String text(double number) {
        return Check.written(x -> x.write(Check.bits(number)));
    }

    private static String fixed(double number, int digits) {
        if (isOdd(number) || number >= 1e21) {
            return text(number);
        }
        return new BigDecimal(number).setScale(digits, RoundingMode.HALF_UP).toPlainString();
    }

    private static String exponential(double number, int digits) {
        if (isOdd(number)) {
            return text(number);
        }
        if (number == 0) {
            return scientific("0".repeat(Math.max(digits, 0) + 1), 0);
        }
        if (digits < 0) {
            BigDecimal shortest = new BigDecimal(text(number)).stripTrailingZeros();
            return scientific(shortest.unscaledValue().toString(), shortest.precision() - shortest.scale() - 1);
        }
        BigDecimal near = rounded(number, digits + 1);
        return scientific(near.unscaledValue().toString(), digits - near.scale());
    }

    private static BigDecimal rounded(double number, int digits) {
        BigDecimal near = new BigDecimal(number).round(new MathContext(digits, RoundingMode.HALF_UP));
        return near.setScale(near.scale() + digits - near.precision());
    }

    private static String scientific(String digits, int exponent) {
        String others = digits.length() > 1 ? "." + digits.substring(1) : "";
        return digits.charAt(0) + others + "e" + (exponent < 0 ? "-" : "+") + Math.abs(exponent);
    }

    private static String precise(double number, int digits) {
        if (isOdd(number)) {
            return text(number);
        }
        if (number == 0) {
            return digits == 1 ? "0" : "0." + "0".repeat(digits - 1);
        }
        BigDecimal near = rounded(number, digits);
        int exponent = digits - 1 - near.scale();
        if (exponent < -6 || exponent >= digits) {
            return scientific(near.unscaledValue().toString(), exponent);
        }
        return near.toPlainString();
    }

    private static void refusesWhatThereIsNot() {
        Subject x = new Subject();
        x.write(Check.bits(42));
        for (long a : new long[] {0, Check.bits(1.5), 0x7FF8000000000000L, Check.bits(1e300)}) {
            for (int form : new int[] {-1, 3, 4, Integer.MAX_VALUE, Integer.MIN_VALUE}) {
                refuses(x, a, form, 1);
            }
            refuses(x, a, FIXED, -1);
            refuses(x, a, FIXED, 21);
            refuses(x, a, EXPONENTIAL, -2);
            refuses(x, a, EXPONENTIAL, 21);
            refuses(x, a, PRECISE, 0);
            refuses(x, a, PRECISE, -1);
            refuses(x, a, PRECISE, 22);
            for (int form = 0; form < 3; form++) {
                refuses(x, a, form, Integer.MAX_VALUE);
                refuses(x, a, form, Integer.MIN_VALUE);
            }
        }
        Check.same("what was written before, unit 0", x.unit(0), '4');
        Check.same("what was written before, unit 1", x.unit(1), '2');
        Check.throwsJust("unit(2)", IndexOutOfBoundsException.class, () -> x.unit(2));
    }

    private static void refuses(Subject x, long a, int form, int digits) {
        Check.throwsJust("form " + form + " of " + digits + " digits", IllegalArgumentException.class,
                () -> x.form(a, form, digits));
    }
}
