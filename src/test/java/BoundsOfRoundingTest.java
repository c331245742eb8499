/** The bounds of the term ROUND, by all calls that round. */
final class BoundsOfRoundingTest {
    private static final double LEAST = Double.MIN_VALUE;
    private static final double GREATEST = Double.MAX_VALUE;

    public static void main(String[] args) {
        nearest();
        asNearToTheMiddleAsCanBe();
        ofTwoAsNearTheEvenOne();
        aCarryGoesIntoTheExponent();
        nearestOfTheLeastNumbers();
        ofTwoAsNearAmongTheLeastNumbers();
        infiniteFromTheMiddleTo2To1024On();
        infiniteFarBeyond();
        aZeroKeepsTheSign();
        Check.end();
    }

    private static void of(long whole, double due) {
        Check.same("of(" + whole + ")", Check.subject(1).of(whole), Check.bits(due));
        Check.same("of(" + -whole + ")", Check.subject(1).of(-whole), Check.bits(-due));
    }

    private static void nearest() {
        Check.sentence("To ROUND an exact value: the nearest number");
        // just below and just above the middle of 1 and its neighbours
        Check.reckons(1, Math.nextDown(0x1p-53), 0, 1);
        Check.reckons(1, Math.nextUp(0x1p-53), 0, 1 + 0x1p-52);
        Check.reckons(1, Math.nextDown(0x1p-54), 1, 1);
        Check.reckons(1, Math.nextUp(0x1p-54), 1, 1 - 0x1p-53);
        Check.reckons(1, LEAST, 0, 1);
        Check.reckons(1, LEAST, 1, 1);
        // (1 + 2^-52)^2 is 2^-104 above 1 + 2^-51; 1 / 3 lies above its number, 1 / 5 below
        Check.reckons(1 + 0x1p-52, 1 + 0x1p-52, 2, 1 + 0x1p-51);
        Check.reckonsBits(Check.bits(1), Check.bits(3), 3, 0x3FD5555555555555L);
        Check.reckonsBits(Check.bits(1), Check.bits(5), 3, 0x3FC999999999999AL);
        of((1L << 53) - 1, 0x1.fffffffffffffp52);
        of((1L << 54) + 1, 0x1p54);
        of((1L << 54) + 3, 0x1p54 + 4);
        of((1L << 60) + 128 + 1, 0x1p60 + 256);
        of((1L << 60) + 128 - 1, 0x1p60);
        Check.reads("9007199254740992.9999", 9007199254740992.0);
        Check.reads("9007199254740993.0001", 9007199254740994.0);
        Check.reads("0x2000000000000100", 0x1p61);
        Check.reads("0x2000000000000101", 0x1p61 + 512);
        Check.reads("0x20000000000000ff", 0x1p61);
        Check.reads("0x200000000000010000000000000001", 0x1p117 + 0x1p65);
        Check.reads("0x20000000000000ffffffffffffffff", 0x1p117);
    }

    private static void asNearToTheMiddleAsCanBe() {
        Check.sentence("the nearest number, of what is as near to the middle of two as can be, but not in it");
        // 1 of 2^53 or 2^52 parts of a last place above the middle, then below it; the even neighbour is the other one
        Check.reckons(0x1.d76d4f1446bebp0, 0x1.7a0b42fae64c3p0, 2, 0x1.5c1611e746c7dp1);
        Check.reckons(0x1.28276e6a16a3bp0, 0x1.a4a13dc6bdef3p0, 2, 0x1.e69b3969cd655p0);
        Check.reckons(0x1.687c9377b9aa3p0, 0x1.df1e8749916f5p0, 2, 0x1.51560a83cb415p1);
        Check.reckons(0x1.c30d828dbd25fp0, -0x1.0c5bb0e32f661p0, 2, -0x1.d8d3b2235ca57p0);
        // the rest is 1 of the divisor's parts above the middle, then below it
        Check.reckons(0x1.7e176504f3975p0, 0x1.9e306238642ebp0, 3, 0x1.d8529049b551fp-1);
        Check.reckons(-0x1.0e3a2f7e7a5b5p0, 0x1.2a759fb7ff337p0, 3, -0x1.cf918116ae6bdp-1);
        Check.reckons(0x1.ce7914abf1e73p0, 0x1.f7f35f0e3cd97p0, 3, 0x1.d5dc1bf71c113p-1);
        Check.reckons(0x1.30b595fc09303p0, -0x1.5af844f596727p0, 3, -0x1.c1a398af9cc4bp-1);
        Check.turns(0x1.654bae1c50ceep0, 0, 0x1.2e6fad8466bb3p0);
        Check.turns(0x1.a7b5782a5c77dp0, 0, 0x1.4958d74773483p0);
        Check.turns(0x1.26cce833d2834p0, 0, 0x1.12b74eec543adp0);
        // two digits far behind the middle, and one
        Check.reads("0x20000000000001000000000000000101", 0x1p125 + 0x1p73);
        Check.reads("0x20000000000001000000000000000001", 0x1p125 + 0x1p73);
        Check.reads("0x20000000000000ffffffffffffffffff", 0x1p125);
    }

    private static void ofTwoAsNearTheEvenOne() {
        Check.sentence("of two as near the one whose fraction is even");
        Check.reckons(1, 0x1p-53, 0, 1);
        Check.reckons(1 + 0x1p-52, 0x1p-53, 0, 1 + 0x1p-51);
        Check.reckons(-1, 0x1p-53, 1, -1);
        Check.reckons(-1 - 0x1p-52, 0x1p-53, 1, -1 - 0x1p-51);
        Check.reckons(1, 0x1p-54, 1, 1);
        Check.reckons(1 - 0x1p-53, 0x1p-54, 1, 1 - 0x1p-52);
        Check.reckons(9007199254740991.0, 0.5, 0, 9007199254740992.0);
        // three times an odd number of 53 bits is odd and has 54
        Check.reckons(3, 0x1p52 + 1, 2, 13510798882111492.0);
        Check.reckons(3, 0x1p52 + 3, 2, 13510798882111496.0);
        Check.reckons(0x1p27 + 1, 0x1p27 - 1, 2, 0x1p54);
        of((1L << 53) + 1, 0x1p53);
        of((1L << 53) + 3, 0x1p53 + 4);
        of((1L << 54) + 2, 0x1p54);
        of((1L << 54) + 6, 0x1p54 + 8);
        of((1L << 62) + 512, 0x1p62);
        of((1L << 62) + 1536, 0x1p62 + 2048);
        Check.reads("9007199254740993", 9007199254740992.0);
        Check.reads("9007199254740995", 9007199254740996.0);
        Check.reads("-9007199254740993", -9007199254740992.0);
        Check.reads("0x20000000000001", 0x1p53);
        Check.reads("0x20000000000003", 0x1p53 + 4);
        Check.reads("0x200000000000010000000000000000", 0x1p117);
        Check.reads("0x200000000000030000000000000000", 0x1p117 + 0x1p66);
    }

    private static void aCarryGoesIntoTheExponent() {
        Check.sentence("the nearest number, when it has the next exponent");
        Check.reckons(Math.nextDown(2.0), 0x1p-53, 0, 2);
        Check.reckons(Math.nextDown(0.5), 0x1p-54, 0, 0.5);
        of((1L << 54) - 1, 0x1p54);
        of((1L << 54) - 2, 0x1.fffffffffffffp53);
        of(Long.MAX_VALUE, 0x1p63);
        of(Long.MAX_VALUE - 511, 0x1p63);
        of(Long.MAX_VALUE - 512, 0x1.fffffffffffffp62);
        Check.same("of the least long", Check.subject(1).of(Long.MIN_VALUE), Check.bits(-0x1p63));
        Check.reads("18014398509481983", 0x1p54);
        Check.reads("0x3fffffffffffff", 0x1p54);
        Check.reads("0.99999999999999994449", 1);
        Check.reads("0.99999999999999994448", 1 - 0x1p-53);
    }

    private static void nearestOfTheLeastNumbers() {
        Check.sentence("the nearest number, of those with exponent 0");
        Check.reckons(LEAST, Math.nextUp(0.5), 2, LEAST);
        Check.reckons(LEAST, Math.nextDown(0.5), 2, 0.0);
        Check.reckons(LEAST, Math.nextDown(2.0), 3, LEAST);
        Check.reckons(LEAST, Math.nextUp(2.0), 3, 0.0);
        Check.reckons(LEAST, Math.nextDown(1.5), 2, LEAST);
        Check.reckons(LEAST, Math.nextUp(1.5), 2, 2 * LEAST);
        Check.reads("2.4703282292062327208e-324", 0.0);
        Check.reads("2.4703282292062327209e-324", LEAST);
        Check.reads("7.4109846876186981626e-324", LEAST);
        Check.reads("7.4109846876186981627e-324", 2 * LEAST);
        Check.reads("2.2250738585072011360e-308", Math.nextDown(Double.MIN_NORMAL));
        Check.reads("2.2250738585072011361e-308", Double.MIN_NORMAL);
    }

    private static void ofTwoAsNearAmongTheLeastNumbers() {
        Check.sentence("of two as near the one whose fraction is even, of those with exponent 0");
        Check.reckons(LEAST, 0.5, 2, 0.0);
        Check.reckons(3 * LEAST, 0.5, 2, 2 * LEAST);
        Check.reckons(5 * LEAST, 0.5, 2, 2 * LEAST);
        Check.reckons(7 * LEAST, 0.5, 2, 4 * LEAST);
        Check.reckons(LEAST, 2, 3, 0.0);
        Check.reckons(3 * LEAST, 2, 3, 2 * LEAST);
        // half of 2^53 - 1 lasts is half a last below the least number of exponent 1
        Check.reckonsBits(0x001FFFFFFFFFFFFFL, Check.bits(0.5), 2, 0x0010000000000000L);
        Check.reckonsBits(0x001FFFFFFFFFFFFDL, Check.bits(0.5), 2, 0x000FFFFFFFFFFFFEL);
        Check.reckonsBits(0x001FFFFFFFFFFFFFL, Check.bits(2), 3, 0x0010000000000000L);
    }

    private static void infiniteFromTheMiddleTo2To1024On() {
        Check.sentence("2^1024 taken for one that could be: it is infinite then");
        Check.reckons(GREATEST, 0x1p970, 0, Check.INFINITE);
        Check.reckons(GREATEST, Math.nextDown(0x1p970), 0, GREATEST);
        Check.reckons(-GREATEST, 0x1p970, 1, -Check.INFINITE);
        Check.reckons(-GREATEST, Math.nextDown(0x1p970), 1, -GREATEST);
        Check.reckons((0x1p27 + 1) * 0x1p500, (0x1p27 - 1) * 0x1p470, 2, Check.INFINITE);
        Check.reckons(3137 * 0x1p480, -5880377454163070.0 * 0x1p480, 2, -GREATEST);
        Check.reckons(GREATEST, Math.nextDown(1.0), 3, Check.INFINITE);
        Check.reckons(Math.nextDown(GREATEST), Math.nextDown(1.0), 3, GREATEST);
        Check.reads("1.7976931348623158079e308", GREATEST);
        Check.reads("1.7976931348623158080e308", Check.INFINITE);
        Check.reads("-1.7976931348623158079e308", -GREATEST);
        Check.reads("-1.7976931348623158080e308", -Check.INFINITE);
        Check.reads("0xfffffffffffffb" + "f".repeat(242), GREATEST);
        Check.reads("0xfffffffffffffc" + "0".repeat(242), Check.INFINITE);
        Check.reads("0xfffffffffffff8" + "0".repeat(242), GREATEST);
        Check.reads("0x1" + "0".repeat(256), Check.INFINITE);
    }

    private static void infiniteFarBeyond() {
        Check.sentence("2^1024 taken for one that could be, and what is nearer to it than to all others");
        Check.reckons(GREATEST, GREATEST, 0, Check.INFINITE);
        Check.reckons(GREATEST, GREATEST, 2, Check.INFINITE);
        Check.reckons(-GREATEST, GREATEST, 2, -Check.INFINITE);
        Check.reckons(GREATEST, LEAST, 3, Check.INFINITE);
        Check.reckons(0x1p1023, 2, 2, Check.INFINITE);
        Check.reckons(0x1p1023, 0.5, 3, Check.INFINITE);
        Check.reckons(0x1p1023, 0x1p1023, 0, Check.INFINITE);
        Check.reads("1e309", Check.INFINITE);
        Check.reads("1e308", 1e308);
        Check.reads("0x" + "f".repeat(598), Check.INFINITE);
    }

    private static void aZeroKeepsTheSign() {
        Check.sentence("a zero keeps the value's sign");
        Check.reckons(-LEAST, 0.5, 2, -0.0);
        Check.reckons(-LEAST, -0.5, 2, 0.0);
        Check.reckons(LEAST, -LEAST, 2, -0.0);
        Check.reckons(LEAST, -2, 3, -0.0);
        Check.reckons(-LEAST, GREATEST, 3, -0.0);
        Check.reckons(-LEAST, -GREATEST, 3, 0.0);
        Check.reads("-2.4703282292062327208e-324", -0.0);
        Check.reads("-1e-325", -0.0);
        Check.reads("-1e-99999", -0.0);
        Check.reads("1e-99999", 0.0);
        Check.same("of(0)", Check.subject(1).of(0), 0);
    }
}
