import java.math.BigDecimal;
import java.math.BigInteger;
import java.util.Random;

/** Promise 10: radix. */
final class Promise10RadixTest {
    public static void main(String[] args) {
        writtenOutCases();
        for (long a : Check.edges()) {
            for (int radix = 2; radix <= 36; radix++) {
                asDefined(a, radix);
            }
        }
        Random random = new Random(11);
        for (int i = 0; i < 10000; i++) {
            asDefined(Check.anyBits(random), 2 + random.nextInt(35));
        }
        refusesOtherRadices();
        Check.end();
    }

    private static void dueBits(long a, int radix, String due) {
        Check.writesBitsInRadix(a, radix, due);
    }

    private static void due(double a, int radix, String due) {
        dueBits(Check.bits(a), radix, due);
    }

    private static void writtenOutCases() {
        dueBits(0xFFF8000000000000L, 2, "NaN");
        due(Double.POSITIVE_INFINITY, 36, "Infinity");
        due(Double.NEGATIVE_INFINITY, 2, "-Infinity");
        due(0.0, 2, "0");
        due(-0.0, 16, "0");
        due(255, 16, "ff");
        due(-255.5, 16, "-ff.8");
        due(-3.75, 2, "-11.11");
        due(35, 36, "z");
        due(36, 36, "10");
        due(0x1p1023, 2, "1" + "0".repeat(1023));
        due(-Double.MAX_VALUE, 2, "-" + "1".repeat(53) + "0".repeat(971));
        due(0.1, 2, "0.0001100110011001100110011001100110011001100110011001");
        due(0x1p-52, 2, "0." + "0".repeat(51) + "1");
        due(0x1p-53, 2, "0");
        due(-0x1p-53, 2, "-0");
        due(-Double.MIN_VALUE, 36, "-0");
        due(1 + 0x1p-52, 2, "1." + "0".repeat(51) + "1");
        due(0x1.8p-52, 2, "0." + "0".repeat(51) + "1");
        due(0x1p-1 + 0x1p-53, 2, "0.1");
        due(1.0 / 3, 3, "0.0222222222222222222222222222222222" + tail(1.0 / 3, 3, 34));
        due(1e21, 7, new BigInteger("1000000000000000000000").toString(7));
    }

    private static String tail(double number, int radix, int from) {
        return textOf(number, radix).substring(from + 2);
    }

    private static void asDefined(long a, int radix) {
        double number = Double.longBitsToDouble(a);
        if (radix == 10) {
            return;
        }
        if (Double.isNaN(number)) {
            dueBits(a, radix, "NaN");
        } else if (number == 0) {
            dueBits(a, radix, "0");
        } else {
            dueBits(a, radix, number < 0 ? "-" + textOf(-number, radix) : textOf(number, radix));
        }
    }

    private static String textOf(double number, int radix) {
        if (Double.isInfinite(number)) {
            return "Infinity";
        }
        BigDecimal exact = new BigDecimal(number);
        StringBuilder text = new StringBuilder(exact.toBigInteger().toString(radix));
        BigDecimal rest = exact.subtract(new BigDecimal(exact.toBigInteger()));
        // 52 digits of the rest at once: the whole part of rest * radix^52.
        BigInteger digits = rest.multiply(new BigDecimal(BigInteger.valueOf(radix).pow(52))).toBigInteger();
        String row = digits.toString(radix);
        row = "0".repeat(52 - row.length()) + row;
        row = row.replaceAll("0+$", "");
        return row.isEmpty() ? text.toString() : text.append('.').append(row).toString();
    }

    private static void refusesOtherRadices() {
        Subject x = new Subject();
        x.write(Check.bits(42));
        for (int radix : new int[] {10, 1, 0, -1, -2, 37, 38, Integer.MAX_VALUE, Integer.MIN_VALUE}) {
            for (long a : new long[] {0, Check.bits(1.5), 0x7FF8000000000000L}) {
                Check.throwsJust("radix " + radix, IllegalArgumentException.class, () -> x.radix(a, radix));
            }
        }
        Check.same("what was written before, unit 0", x.unit(0), '4');
        Check.same("what was written before, unit 1", x.unit(1), '2');
        Check.throwsJust("unit(2)", IndexOutOfBoundsException.class, () -> x.unit(2));
    }
}
