/** The bounds of the term BITS. */
final class BoundsOfBitsTest {
    private static final long LEAST_NORMAL = 0x0010000000000000L;

    public static void main(String[] args) {
        theHighestBitIsTheSign();
        exponent0();
        exponent1AndNext();
        exponentsOfWholes();
        exponent2046();
        exponent2047WithFraction0();
        otherFractions();
        nanIsAnsweredAlwaysTheSame();
        zerosHaveASign();
        Check.end();
    }

    private static void theHighestBitIsTheSign() {
        Check.sentence("the highest one is the SIGN");
        Check.writesBits(0x3FF0000000000000L, "1");
        Check.writesBits(0xBFF0000000000000L, "-1");
        Check.writesBits(0x8000000000000001L, "-5e-324");
        Check.writesBits(0xFFEFFFFFFFFFFFFFL, "-1.7976931348623157e+308");
    }

    private static void exponent0() {
        Check.sentence("exponent 0: fraction * 2^-1074");
        Check.writesBits(1, "5e-324");
        Check.writesBits(2, "1e-323");
        Check.writesBits(0x000FFFFFFFFFFFFFL, "2.225073858507201e-308");
        Check.reckonsBits(1, 1, 0, 2);
        // times 2^52 the least fraction is the least number of exponent 1
        Check.reckonsBits(1, 0x4330000000000000L, 2, LEAST_NORMAL);
        Check.reckonsBits(0x000FFFFFFFFFFFFFL, 0x000FFFFFFFFFFFFEL, 1, 1);
        Check.reckonsBits(0x000FFFFFFFFFFFFFL, 1, 0, LEAST_NORMAL);
        Check.reckonsBits(LEAST_NORMAL, 0x000FFFFFFFFFFFFFL, 1, 1);
    }

    private static void exponent1AndNext() {
        Check.sentence("1 to 2046: (2^52 + fraction) * 2^(exponent - 1075)");
        Check.writesBits(LEAST_NORMAL, "2.2250738585072014e-308");
        Check.reckonsBits(LEAST_NORMAL + 1, LEAST_NORMAL, 1, 1);
        Check.reckonsBits(0x001FFFFFFFFFFFFFL, 0x001FFFFFFFFFFFFEL, 1, 1);
        Check.reckonsBits(0x0020000000000000L, 0x001FFFFFFFFFFFFFL, 1, 1);
        Check.reckonsBits(0x0020000000000001L, 0x0020000000000000L, 1, 2);
        Check.reckonsBits(0x0020000000000000L, LEAST_NORMAL, 1, LEAST_NORMAL);
    }

    private static void exponentsOfWholes() {
        Check.sentence("1 to 2046: (2^52 + fraction) * 2^(exponent - 1075), whole from 1075 on");
        Check.writesBits(0x432FFFFFFFFFFFFFL, "4503599627370495.5");
        Check.writesBits(0x4330000000000000L, "4503599627370496");
        Check.writesBits(0x4330000000000001L, "4503599627370497");
        Check.writesBits(0x433FFFFFFFFFFFFFL, "9007199254740991");
        Check.writesBits(0x4340000000000000L, "9007199254740992");
        Check.writesBits(0x4340000000000001L, "9007199254740994");
    }

    private static void exponent2046() {
        Check.sentence("1 to 2046: (2^52 + fraction) * 2^(exponent - 1075), the last of these");
        Check.writesBits(0x7FEFFFFFFFFFFFFFL, "1.7976931348623157e+308");
        Check.writesBitsInRadix(0x7FEFFFFFFFFFFFFFL, 2, "1".repeat(53) + "0".repeat(971));
        Check.writesBitsInRadix(0x7FE0000000000000L, 2, "1" + "0".repeat(1023));
    }

    private static void exponent2047WithFraction0() {
        Check.sentence("2047 with fraction 0: INFINITE");
        Check.writesBits(0x7FF0000000000000L, "Infinity");
        Check.writesBits(0xFFF0000000000000L, "-Infinity");
        Check.same("compare with the greatest number",
                Check.subject(1).compare(0x7FF0000000000000L, 0x7FEFFFFFFFFFFFFFL), 1);
    }

    private static void otherFractions() {
        Check.sentence("other fractions: NAN");
        for (long nan : Check.nans()) {
            Check.writesBits(nan, "NaN");
            Check.writesBitsInRadix(nan, 2, "NaN");
            Check.formsBits(nan, 0, 0, "NaN");
            Check.formsBits(nan, 1, -1, "NaN");
            Check.formsBits(nan, 1, 0, "NaN");
            Check.formsBits(nan, 2, 1, "NaN");
            Check.same("compare of a NAN", Check.subject(1).compare(nan, 0), 2);
            Check.same("whole of a NAN", Check.subject(1).whole(nan, 0), 0);
        }
    }

    private static void nanIsAnsweredAlwaysTheSame() {
        Check.sentence("what is answered is always 7FF8000000000000 (hexadecimal), whatever the sign and fraction");
        for (long nan : Check.nans()) {
            for (int what = 0; what <= 4; what++) {
                for (long other : Check.edges()) {
                    Check.reckonsBits(nan, other, what, 0x7FF8000000000000L);
                    Check.reckonsBits(other, nan, what, 0x7FF8000000000000L);
                }
            }
            for (int what = 0; what <= 6; what++) {
                Check.turnsBits(nan, what, 0x7FF8000000000000L);
            }
        }
        Check.readsBits("NaN", 0x7FF8000000000000L);
        Check.readsBits("-NaN", 0x7FF8000000000000L);
    }

    private static void zerosHaveASign() {
        Check.sentence("Zeros have a sign, too");
        Check.turnsBits(0, 5, 0x8000000000000000L);
        Check.turnsBits(0x8000000000000000L, 5, 0);
        Check.turnsBits(0x8000000000000000L, 6, 0);
        Check.readsBits("-0", 0x8000000000000000L);
        Check.readsBits("0", 0);
        Check.reckons(1, -0.0, 3, -Check.INFINITE);
        Check.reckons(1, 0.0, 3, Check.INFINITE);
    }
}
