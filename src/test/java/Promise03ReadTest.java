import java.math.BigDecimal;
import java.math.BigInteger;
import java.math.MathContext;
import java.math.RoundingMode;
import java.util.Random;

/** Promise 3: read. */
final class Promise03ReadTest {
    private static final long NAN = Check.NAN;

    public static void main(String[] args) {
        readsBlanks();
        readsHexadecimals();
        readsInfinity();
        readsDecimals();
        readsWhatIsNoNumber();
        roundsAtTheEdges();
        countsTwentyDigits();
        readsLongTexts();
        readsManyDecimals();
        readsNearTheMiddle();
        readsManyHexadecimals();
        Check.end();
    }

    private static void dueBits(String text, long bits) {
        Check.readsBits(text, bits);
    }

    private static void due(String text, double number) {
        dueBits(text, Check.bits(number));
    }

    private static void readsBlanks() {
        dueBits("", 0L);
        dueBits(" ", 0L);
        due(" 12 ", 12);
        for (int c = 0; c < 65536; c++) {
            dueBits((char) c + "1" + (char) c, isBlank(c) ? Check.bits(1) : c >= '0' && c <= '9'
                    ? Check.bits((c - '0') * 101 + 10) : NAN);
            if (isBlank(c)) {
                dueBits("" + (char) c, 0L);
                dueBits("1" + (char) c + "1", NAN);
            }
        }
    }

    private static boolean isBlank(int c) {
        for (int blank : new int[] {9, 10, 11, 12, 13, 32, 160, 5760, 6158, 8192, 8193, 8194, 8195, 8196, 8197,
            8198, 8199, 8200, 8201, 8202, 8232, 8233, 8239, 8287, 12288, 65279}) {
            if (c == blank) {
                return true;
            }
        }
        return false;
    }

    private static void readsHexadecimals() {
        dueBits("0x0", 0L);
        due("0xff", 255);
        due("0XfF", 255);
        due(" 0x1234567890abcdefABCDEF\t", new BigInteger("1234567890abcdefabcdef", 16).doubleValue());
        due("0x20000000000001", 0x1p53);
        due("0x20000000000003", 0x1p53 + 4);
        due("0x200000000000010000000000000000", 0x1p117);
        due("0x200000000000010000000000000001", 0x1p117 + 0x1p65);
        for (String text : new String[] {"0x", "0X", "+0x1", "-0x1", "0x-1", "0xg", "0x1g", "0x1.8", "0x 1", "x1",
            "0x1p3", "00x1", "0y1", "0x:", "0x@", "0x`", "0x/", "0xG"}) {
            dueBits(text, NAN);
        }
    }

    private static void readsInfinity() {
        due("Infinity", Double.POSITIVE_INFINITY);
        due("+Infinity", Double.POSITIVE_INFINITY);
        due("-Infinity", Double.NEGATIVE_INFINITY);
        due("\n-Infinity ", Double.NEGATIVE_INFINITY);
        for (String text : new String[] {"infinity", "INFINITY", "Inf", "Infinit", "Infinityx", "--Infinity",
            "- Infinity", "1Infinity", "Infinity1", "Infinitz", "NaN", "Infinity Infinity"}) {
            dueBits(text, NAN);
        }
    }

    private static void readsDecimals() {
        due("0", 0.0);
        due("+0", 0.0);
        due("-0", -0.0);
        due("-0.000e99999999999999", -0.0);
        due("-.0", -0.0);
        due("007", 7);
        due("5.", 5);
        due(".5", 0.5);
        due("+5.e1", 50);
        due("-.5E-1", -0.05);
        due("1e+2", 100);
        due("1e0002", 100);
        due("1e-0000000000000000000000000000002", 0.01);
        due("123.456e3", 123456);
        due("0.1", 0.1);
        due("1e400", Double.POSITIVE_INFINITY);
        due("-1e400", Double.NEGATIVE_INFINITY);
        due("-1e-400", -0.0);
        due("1e99999999999999999999999999", Double.POSITIVE_INFINITY);
        due("1e-99999999999999999999999999", 0.0);
        due("1e2147483648", Double.POSITIVE_INFINITY);
        due("1e-4294967296", 0.0);
    }

    private static void readsWhatIsNoNumber() {
        for (String text : new String[] {".", "+", "-", "+.", "-.", "e", "e1", ".e1", "1e", "1e+", "1e-", "1ee1",
            "1e1.", "1e1e1", "1..", "1.1.1", "+-1", "--1", "++1", "1 2", "1_000", "1,5", "1d", "1f", "0b1", "0o7",
            "1e 1", "1 e1", "- 1", "abc", "1e1.5", ".+1", "\u0661", "\uFF11", "1-", "1+1", "1\0"}) {
            dueBits(text, NAN);
        }
    }

    private static void roundsAtTheEdges() {
        due("1.7976931348623157e308", Double.MAX_VALUE);
        due("1.7976931348623158e308", Double.MAX_VALUE);
        due("1.7976931348623158079e308", Double.MAX_VALUE);
        due("1.7976931348623158080e308", Double.POSITIVE_INFINITY);
        due("4.9406564584124654e-324", Double.MIN_VALUE);
        due("2.4703282292062327208e-324", 0.0);
        due("2.4703282292062327209e-324", Double.MIN_VALUE);
        due("-2.4703282292062327208e-324", -0.0);
        due("2.2250738585072011e-308", 0x1p-1022 - Double.MIN_VALUE);
        due("2.2250738585072014e-308", Double.MIN_NORMAL);
        due("9007199254740993", 9007199254740992.0);
        due("9007199254740993.0001", 9007199254740994.0);
        due("9007199254740995", 9007199254740996.0);
        due("0.500000000000000000001", 0.5);
        due("1e23", 1e23);
    }

    private static void countsTwentyDigits() {
        // 9007199254740993 and a place behind the twentieth digit: cut off, it is half-way to the even one.
        due("9007199254740993.00001", 9007199254740992.0);
        due("00000009007199254740993.00001", 9007199254740992.0);
        due("9007199254740993000019", Double.parseDouble("9007199254740993000000"));
        due("900719925474099300001", Double.parseDouble("900719925474099300000"));
        due("0.0009007199254740993000019", Double.parseDouble("0.0009007199254740993"));
        due("99999999999999999999999999", Double.parseDouble("99999999999999999999000000"));
        due("123456789012345678901234567890e-10", Double.parseDouble("123456789012345678900000000000e-10"));
        due("1.2345678901234567890123456789e10", Double.parseDouble("1.2345678901234567890e10"));
    }

    private static void readsLongTexts() {
        String zeros = "0".repeat(590);
        due("1" + zeros + "e-590", 1);
        due("1" + zeros + "e-595", 1e-5);
        due("." + zeros + "1e591", 1);
        due("." + zeros + "1e890", 1e299);
        due(zeros + "7", 7);
        due("1" + zeros, Double.POSITIVE_INFINITY);
        due("." + zeros + "1", 0.0);
        due("0x" + "0".repeat(597) + "1", 1);
        due("0x" + "1".repeat(598), Double.POSITIVE_INFINITY);
        due("0x1" + "0".repeat(255), 0x1p1020);
        due("1e" + "0".repeat(590) + "3", 1000);
        dueBits(" ".repeat(600), 0L);
        due("9".repeat(600), Double.POSITIVE_INFINITY);
        due("9".repeat(300), Double.parseDouble("99999999999999999999e280"));
    }

    private static void readsManyDecimals() {
        Random random = new Random(3);
        for (int i = 0; i < 60000; i++) {
            StringBuilder digits = new StringBuilder();
            int length = 1 + random.nextInt(random.nextInt(8) == 0 ? 60 : 20);
            for (int k = 0; k < length; k++) {
                digits.append((char) ('0' + random.nextInt(10)));
            }
            int point = random.nextInt(length + 1);
            String text = digits.substring(0, point) + "." + digits.substring(point);
            String exponent = random.nextInt(4) == 0 ? "" : "e" + (random.nextInt(700) - 350);
            String sign = random.nextBoolean() ? "-" : "";
            due(sign + text + exponent, Double.parseDouble(sign + withTwentyDigits(text) + exponent));
        }
        for (int i = 0; i < 20000; i++) {
            double number = Double.longBitsToDouble(Check.anyBits(random));
            if (!Double.isNaN(number) && !Double.isInfinite(number)) {
                due(Double.toString(number), number);
            }
        }
    }

    /** Decimals of twenty digits just below and above the middle of two numbers, or on it. */
    private static void readsNearTheMiddle() {
        Random random = new Random(13);
        for (int i = 0; i < 20000; i++) {
            long fraction = random.nextLong() >>> 12;
            int[] fields = {0, 1 + random.nextInt(2045), 1023 + random.nextInt(70)};
            long a = (long) fields[i % 3] << 52 | fraction;
            BigDecimal low = new BigDecimal(Double.longBitsToDouble(a));
            BigDecimal middle = low.add(new BigDecimal(Double.longBitsToDouble(a + 1))).divide(BigDecimal.valueOf(2));
            BigDecimal down = middle.round(new MathContext(20, RoundingMode.DOWN));
            BigDecimal up = middle.round(new MathContext(20, RoundingMode.UP));
            due(down.toString(), down.doubleValue());
            due(up.toString(), up.doubleValue());
            due(down.subtract(down.ulp()).toString(), down.subtract(down.ulp()).doubleValue());
        }
    }

    private static String withTwentyDigits(String text) {
        StringBuilder kept = new StringBuilder();
        int counting = 0;
        for (char c : text.toCharArray()) {
            if (c != '.' && (counting > 0 || c != '0')) {
                counting++;
            }
            kept.append(c != '.' && counting > 20 ? '0' : c);
        }
        return kept.toString();
    }

    private static void readsManyHexadecimals() {
        Random random = new Random(4);
        for (int i = 0; i < 20000; i++) {
            BigInteger number = new BigInteger(1 + random.nextInt(1100), random);
            if (random.nextInt(3) == 0) {
                number = BigInteger.valueOf(random.nextLong() >>> 10 | 1).shiftLeft(random.nextInt(200));
            }
            due("0x" + number.toString(16), number.doubleValue());
        }
    }
}
