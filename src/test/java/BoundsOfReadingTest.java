import java.util.Arrays;

/** The bounds of the term THE NUMBER OF A TEXT, and of promise 3. */
final class BoundsOfReadingTest {
    private static final int[] BLANKS = {
        9, 10, 11, 12, 13, 32, 160, 5760, 6158, 8192, 8193, 8194, 8195, 8196, 8197, 8198, 8199, 8200, 8201, 8202,
        8232, 8233, 8239, 8287, 12288, 65279
    };
    private static final double INFINITE = Check.INFINITE;
    private static final double LEAST = Double.MIN_VALUE;
    private static final double GREATEST = Double.MAX_VALUE;

    public static void main(String[] args) {
        blanksAtBothEnds();
        unitsBesideBlanks();
        blanksInside();
        nothingLeft();
        hexadecimalDigits();
        hexadecimalWithoutDigits();
        hexadecimalWithASign();
        hexadecimalRounded();
        infinityAlone();
        digits();
        pointAndDigitsOrNone();
        pointAndDigits();
        exponentPart();
        exponentDigitsAsManyAsThereAre();
        farExponents();
        decimalRounded();
        behindTheTwentieth();
        zerosAheadDoNotCount();
        eachStandsForItsPlace();
        theOpposite();
        everythingElse();
        emptyAfterwards();
        Check.end();
    }

    private static boolean isBlank(int c) {
        return Arrays.binarySearch(BLANKS, c) >= 0;
    }

    private static void blanksAtBothEnds() {
        Check.sentence("blanks (..) at both ends are taken off");
        for (int c : BLANKS) {
            String blank = String.valueOf((char) c);
            Check.reads(blank + "12", 12);
            Check.reads("12" + blank, 12);
            Check.reads(blank + blank + "-12" + blank + blank, -12);
            Check.reads(blank + "0xa" + blank, 10);
            Check.reads(blank + "Infinity" + blank, INFINITE);
        }
        StringBuilder all = new StringBuilder();
        for (int c : BLANKS) {
            all.append((char) c);
        }
        Check.reads(all + "7" + all, 7);
        Check.reads(" ".repeat(299) + "89" + " ".repeat(299), 89);
        Check.reads(" ".repeat(599) + "8", 8);
        Check.reads("8" + " ".repeat(599), 8);
    }

    private static void unitsBesideBlanks() {
        Check.sentence("blanks (9 to 13, 32, 160, ..), and no others");
        for (int c : BLANKS) {
            for (int near : new int[] {c - 1, c + 1}) {
                if (!isBlank(near)) {
                    Check.readsNan((char) near + "1", "1" + (char) near, String.valueOf((char) near));
                }
            }
        }
        for (int c : new int[] {0, 1, 28, 29, 30, 31, 127, 133, 173, 847, 8203, 8204, 8205, 8288, 10240, 65534, 65535}) {
            Check.readsNan((char) c + "1", "1" + (char) c, String.valueOf((char) c));
        }
    }

    private static void blanksInside() {
        Check.sentence("blanks at both ends, and only there");
        Check.readsNan("1 2", "- 1", "+ 1", "1 .5", "1. 5", "1 e5", "1e 5", "1e+ 5", "0 x1", "0x 1", "0x1 2",
                "- Infinity", "Infi nity", "1\t1", ". 5");
    }

    private static void nothingLeft() {
        Check.sentence("nothing left is 0");
        Check.same("read of a new object", new Subject().read(), 0);
        for (int c : BLANKS) {
            Check.readsBits(String.valueOf((char) c), 0);
        }
        Check.readsBits("\t\n ", 0);
        Check.readsBits(" ".repeat(600), 0);
    }

    private static void hexadecimalDigits() {
        Check.sentence("0x or 0X and one or more digits 0 .. 9, a .. f, A .. F");
        Check.reads("0x0", 0.0);
        Check.reads("0x9", 9);
        Check.reads("0xa", 10);
        Check.reads("0xf", 15);
        Check.reads("0XA", 10);
        Check.reads("0XF", 15);
        Check.reads("0x0123456789", 4886718345.0);
        Check.reads("0xabcdef", 11259375);
        Check.reads("0xABCDEF", 11259375);
        Check.reads("0x1e5", 485);
        Check.reads("0x" + "0".repeat(597) + "1", 1);
        Check.reads("0x" + "0".repeat(598), 0.0);
        // the units before and behind 0 .. 9, A .. F and a .. f
        Check.readsNan("0x/", "0x:", "0x@", "0xG", "0x`", "0xg", "0x1/", "0x1:", "0x1@", "0x1G", "0x1`", "0x1g");
        Check.readsNan("0x1.8", "0x1.", "0x.8", "0x1p3", "0x1e+5", "0x1x", "0x0x1", "1x1", "00x1", "x1", "0y1", "0w1",
                "0Y1", "0W1");
    }

    private static void hexadecimalWithoutDigits() {
        Check.sentence("0x or 0X and one or more digits: not none");
        Check.readsNan("0x", "0X", " 0x ", "0x\t");
    }

    private static void hexadecimalWithASign() {
        Check.sentence("(no sign ahead)");
        Check.readsNan("+0x1", "-0x1", "+0X1", "-0X1", "-0x0", "0x+1", "0x-1");
    }

    private static void hexadecimalRounded() {
        Check.sentence("that whole number, rounded");
        Check.reads("0x1fffffffffffff", 9007199254740991.0);
        Check.reads("0x20000000000001", 0x1p53);
        Check.reads("0x20000000000002", 0x1p53 + 2);
        Check.reads("0x20000000000003", 0x1p53 + 4);
        Check.reads("0x3fffffffffffff", 0x1p54);
        Check.reads("0x8000000000000000", 0x1p63);
        Check.reads("0xffffffffffffffff", 0x1p64);
        Check.reads("0x80000000000004000", 0x1p67);
        Check.reads("0x80000000000004001", 0x1p67 + 0x1p15);
        Check.reads("0x8000000000000bfff", 0x1p67 + 0x1p15);
        Check.reads("0x8000000000000c000", 0x1p67 + 0x1p16);
        // digits behind the twentieth count here
        Check.reads("0x1000000000000080000000000", 0x1p96);
        Check.reads("0x1000000000000080000000001", 0x1p96 + 0x1p44);
        Check.reads("0x10000000000000800000000000000000000000000000000000000001", 0x1p220 + 0x1p168);
        Check.reads("0x1" + "0".repeat(255), 0x1p1020);
        Check.reads("0xfffffffffffff8" + "0".repeat(242), GREATEST);
        Check.reads("0xfffffffffffffb" + "f".repeat(242), GREATEST);
        Check.reads("0xfffffffffffffc" + "0".repeat(242), INFINITE);
        Check.reads("0x1" + "0".repeat(256), INFINITE);
        Check.reads("0x1" + "0".repeat(597), INFINITE);
        Check.reads("0x" + "0".repeat(342) + "fffffffffffffb" + "f".repeat(242), GREATEST);
    }

    private static void infinityAlone() {
        Check.sentence("Perhaps + or -, then Infinity alone");
        Check.reads("Infinity", INFINITE);
        Check.reads("+Infinity", INFINITE);
        Check.reads("-Infinity", -INFINITE);
        Check.readsNan("infinity", "INFINITY", "InfinitY", "Infinit", "nfinity", "Infinityy", "Infinity0", "0Infinity",
                "Infinity.", "Infinitye1", "InfinityInfinity", "++Infinity", "+-Infinity", "--Infinity", "-+Infinity",
                "Inf", "I", "-I", "Infinity Infinity", "0xInfinity", "1eInfinity", "Infinitx", "Iofinity", "\u0149nfinity");
    }

    private static void digits() {
        Check.sentence("perhaps + or -, then digits");
        for (int digit = 0; digit <= 9; digit++) {
            Check.reads(String.valueOf(digit), digit);
            Check.reads("+" + digit, digit);
            Check.reads("-" + digit, -(double) digit);
        }
        Check.reads("0000", 0.0);
        Check.reads("007", 7);
        Check.reads("0".repeat(599) + "7", 7);
        Check.reads("9".repeat(600), INFINITE);
        Check.reads("-" + "9".repeat(599), -INFINITE);
        Check.reads("9".repeat(308), 1e308);
        // the units before and behind 0 .. 9, and digits of other scripts
        Check.readsNan("/", ":", "1/", "1:", "/1", ":1", "\u0661", "1\u0661", "\uFF11", "\u0131");
        Check.readsNan("+", "-", "++1", "--1", "+-1", "-+1", "1+", "1-", "1-1");
    }

    private static void pointAndDigitsOrNone() {
        Check.sentence("then digits, perhaps a point and digits or none");
        Check.reads("5.", 5);
        Check.reads("-5.", -5);
        Check.reads("5.0", 5);
        Check.reads("5.25", 5.25);
        Check.reads("0.", 0.0);
        Check.reads("-0.", -0.0);
        Check.reads("5.e1", 50);
        Check.reads("1." + "0".repeat(598), 1);
        Check.reads("0".repeat(599) + ".", 0.0);
        Check.readsNan("5..", "5.5.", "5..5", "5.5.5", "5.-5", "5.+5", "1,5", "5-.5");
    }

    private static void pointAndDigits() {
        Check.sentence("or a point and digits");
        Check.reads(".5", 0.5);
        Check.reads("+.5", 0.5);
        Check.reads("-.5", -0.5);
        Check.reads(".0", 0.0);
        Check.reads("-.0", -0.0);
        Check.reads(".5e1", 5);
        Check.reads("." + "0".repeat(300) + "1", 1e-301);
        Check.reads("." + "0".repeat(598) + "1", 0.0);
        Check.readsNan(".", "+.", "-.", ".e1", "+.e1", "..5", ".5.", ".-5", ".e", " . ");
    }

    private static void exponentPart() {
        Check.sentence("then perhaps e or E, perhaps + or -, digits");
        Check.reads("1e0", 1);
        Check.reads("1E0", 1);
        Check.reads("1e2", 100);
        Check.reads("1E2", 100);
        Check.reads("1e+2", 100);
        Check.reads("1E-2", 0.01);
        Check.reads("-1.5e+2", -150);
        Check.reads("1e-0", 1);
        Check.reads("0e0", 0.0);
        Check.readsNan("1e", "1E", "1e+", "1e-", "1.e", "1.5e", ".5e+", "e1", "E1", "+e1", "-e1", "e", "1ee1", "1e1e1",
                "1e1.", "1e1.5", "1e.5", "1e++1", "1e+-1", "1e-+1", "1e--1", "1e1+", "1e1-", "1e0x1", "1e/", "1e:",
                "1e1/", "1e1:", "1d1", "1f1", "1D1", "1F1", "1e1f");
    }

    private static void exponentDigitsAsManyAsThereAre() {
        Check.sentence("digits (as many as there are)");
        Check.reads("1e" + "0".repeat(597) + "3", 1000);
        Check.reads("1e-" + "0".repeat(596) + "3", 0.001);
        Check.reads("1e" + "9".repeat(598), INFINITE);
        Check.reads("-1e" + "9".repeat(597), -INFINITE);
        Check.reads("1e-" + "9".repeat(597), 0.0);
        Check.reads("-1e-" + "9".repeat(596), -0.0);
        Check.reads("0e" + "9".repeat(598), 0.0);
        Check.reads("-0e" + "9".repeat(597), -0.0);
        // exponents that would be small ones modulo 2^16, 2^31, 2^32, 2^63 and 2^64
        for (String exponent : new String[] {"65536", "65537", "2147483647", "2147483648", "2147483649", "4294967295",
            "4294967296", "4294967297", "9223372036854775807", "9223372036854775808", "9223372036854775809",
            "18446744073709551615", "18446744073709551616", "18446744073709551617"}) {
            Check.reads("1e" + exponent, INFINITE);
            Check.reads("1e+" + exponent, INFINITE);
            Check.reads("1e-" + exponent, 0.0);
            Check.reads("0e" + exponent, 0.0);
        }
    }

    private static void farExponents() {
        Check.sentence("that decimal: an exponent, and digits that make up for it");
        Check.reads("1" + "0".repeat(590) + "e-590", 1);
        Check.reads("1" + "0".repeat(590) + "e-898", 1e-308);
        Check.reads("1" + "0".repeat(590) + "e-913", 2 * LEAST);
        Check.reads("1" + "0".repeat(590) + "e-914", 0.0);
        Check.reads("." + "0".repeat(590) + "1e591", 1);
        Check.reads("." + "0".repeat(590) + "1e899", 1e308);
        Check.reads("." + "0".repeat(590) + "1e900", INFINITE);
        Check.reads("0.0000000001e318", 1e308);
        Check.reads("10000000000e-333", 1e-323);
        Check.reads("1e308", 1e308);
        Check.reads("1e309", INFINITE);
        Check.reads("0.1e309", 1e308);
        Check.reads("1e-323", 2 * LEAST);
        Check.reads("1e-324", 0.0);
        Check.reads("10e-325", 0.0);
        Check.reads("5e-324", LEAST);
        Check.reads("0.5e-323", LEAST);
    }

    private static void decimalRounded() {
        Check.sentence("that decimal, rounded");
        Check.reads("0.1", 0.1);
        Check.reads("9007199254740993", 9007199254740992.0);
        Check.reads("9007199254740993.0001", 9007199254740994.0);
        Check.reads("9007199254740995", 9007199254740996.0);
        Check.reads("9007199254740994.9999", 9007199254740994.0);
        Check.reads("1.7976931348623157e308", GREATEST);
        Check.reads("1.7976931348623158079e308", GREATEST);
        Check.reads("1.7976931348623158080e308", INFINITE);
        Check.reads("2.2250738585072014e-308", Double.MIN_NORMAL);
        Check.reads("2.2250738585072011360e-308", Math.nextDown(Double.MIN_NORMAL));
        Check.reads("2.2250738585072011361e-308", Double.MIN_NORMAL);
        Check.reads("2.4703282292062327208e-324", 0.0);
        Check.reads("2.4703282292062327209e-324", LEAST);
    }

    private static void behindTheTwentieth() {
        Check.sentence("digits behind the twentieth that counts .. are taken for 0");
        // 9007199254740993 is a middle: the twentieth digit tells, the twenty-first does not
        Check.reads("9007199254740993.0001", 9007199254740994.0);
        Check.reads("9007199254740993.00009", 9007199254740992.0);
        Check.reads("9007199254740993." + "0".repeat(500) + "1", 9007199254740992.0);
        Check.reads("9007199254740993.0000" + "9".repeat(500), 9007199254740992.0);
        Check.reads("90071992547409930001e-4", 9007199254740994.0);
        Check.reads("900719925474099300009e-5", 9007199254740992.0);
        Check.reads("90071992547409930000.9e-4", 9007199254740992.0);
        Check.reads("-9007199254740993.00009", -9007199254740992.0);
        // what is not taken for 0 would be infinite, and more than 0, here
        Check.reads("1.7976931348623158079999e308", GREATEST);
        Check.reads("17976931348623158079" + "9".repeat(289), GREATEST);
        Check.reads("2.4703282292062327208999e-324", 0.0);
    }

    private static void zerosAheadDoNotCount() {
        Check.sentence("(from the first that is not 0)");
        Check.reads("0009007199254740993.0001", 9007199254740994.0);
        Check.reads("0009007199254740993.00009", 9007199254740992.0);
        Check.reads("0".repeat(500) + "9007199254740993.0001", 9007199254740994.0);
        Check.reads("0".repeat(500) + "9007199254740993.00009", 9007199254740992.0);
        Check.reads("0.0090071992547409930001e18", 9007199254740994.0);
        Check.reads("0.00900719925474099300009e18", 9007199254740992.0);
        Check.reads(".0090071992547409930001e18", 9007199254740994.0);
        Check.reads("000.00" + "0".repeat(500) + "90071992547409930001e518", 9007199254740994.0);
        Check.reads("000.00" + "0".repeat(500) + "900719925474099300009e518", 9007199254740992.0);
        // zeros behind the first that is not 0 count
        Check.reads("1" + "0".repeat(19) + "9", 1e20);
        Check.reads("1" + "0".repeat(18) + "9", Double.parseDouble("10000000000000000009"));
    }

    private static void eachStandsForItsPlace() {
        Check.sentence("(each stands for its place all the same)");
        Check.reads("12345678901234567890123456789", Double.parseDouble("12345678901234567890e9"));
        Check.reads("12345678901234567890.123456789", Double.parseDouble("12345678901234567890"));
        Check.reads("1234567890123456789012345.6789", Double.parseDouble("12345678901234567890e5"));
        Check.reads("123456789012345678901e-1", Double.parseDouble("12345678901234567890"));
        Check.reads("9".repeat(21), Double.parseDouble("999999999999999999990"));
        Check.reads("1" + "0".repeat(308), 1e308);
        Check.reads("1" + "0".repeat(309), INFINITE);
        Check.reads("1" + "0".repeat(599), INFINITE);
        Check.reads("1." + "0".repeat(598), 1);
        Check.reads("1" + "0".repeat(300) + "." + "0".repeat(298), 1e300);
    }

    private static void theOpposite() {
        Check.sentence("with - its opposite (-0 of 0)");
        Check.reads("-1", -1);
        Check.reads("-0", -0.0);
        Check.reads("+0", 0.0);
        Check.reads("0", 0.0);
        Check.reads("-00.00e5", -0.0);
        Check.reads("-.0e-5", -0.0);
        Check.reads("-1e-400", -0.0);
        Check.reads("-2.4703282292062327208e-324", -0.0);
        Check.reads("-2.4703282292062327209e-324", -LEAST);
        Check.reads("-1e400", -INFINITE);
        Check.reads("-1.7976931348623157e308", -GREATEST);
    }

    private static void everythingElse() {
        Check.sentence("Everything else is NAN");
        Check.readsNan("NaN", "-NaN", "null", "true", "a", "one", "1a", "a1", "0b1", "0o7", "1_0", "1n", "1L", "$1", "1%",
                "'1'", "(1)", "\u0000", "\uFFFF", "\u2212" + "1", "\u221E", "1\u0000", "\u0000" + "1", "x".repeat(600),
                "1".repeat(599) + "x", "x" + "1".repeat(599), "-", "+");
    }

    private static void emptyAfterwards() {
        Check.sentence("The number of the text, which is empty afterwards");
        for (String text : new String[] {"", " ", "12", "0x1f", "Infinity", "nothing", "1e5", "-0", "7".repeat(600)}) {
            Subject x = new Subject();
            Check.readText(x, text);
            Check.same("read again", x.read(), 0);
            Check.same("put of one", x.put('5', 1), 1);
            Check.same("read of it", x.read(), Check.bits(5));
        }
    }
}
