/** The bounds of the term THE TEXT OF A NUMBER, and of promise 9. */
final class BoundsOfWritingTest {
    public static void main(String[] args) {
        nan();
        zeros();
        theOpposite();
        infinite();
        kAsSmallAsCanBe();
        whatRoundsToItAtTheVeryEnds();
        whatRoundsToAPowerOf2();
        ofSeveralTheNearest();
        ofTwoAsNearTheEvenOne();
        theLeastAndTheGreatest();
        digitsAndZeros();
        pointBehindTheFirst();
        zeroPointAndZeros();
        withAnExponent();
        howManyUnits();
        Check.end();
    }

    private static void nan() {
        Check.sentence("NaN");
        for (long nan : Check.nans()) {
            Check.writesBits(nan, "NaN");
        }
    }

    private static void zeros() {
        Check.sentence("0 for both zeros");
        Check.writes(0.0, "0");
        Check.writes(-0.0, "0");
    }

    private static void theOpposite() {
        Check.sentence("- and that of the opposite");
        for (double a : new double[] {Double.MIN_VALUE, 1e-7, 1e-6, 0.5, 1, 12.5, 100, 1e20, 1e21, Double.MAX_VALUE}) {
            Check.writes(-a, "-" + Check.written(x -> x.write(Check.bits(a))));
        }
        Check.writes(-Double.MIN_VALUE, "-5e-324");
        Check.writes(-1, "-1");
    }

    private static void infinite() {
        Check.sentence("Infinity");
        Check.writes(Check.INFINITE, "Infinity");
        Check.writes(-Check.INFINITE, "-Infinity");
    }

    private static void kAsSmallAsCanBe() {
        Check.sentence("s * 10^(n - k) rounds to it, k as small as can be");
        Check.writes(0.1, "0.1");
        Check.writes(Math.nextUp(0.1), "0.10000000000000002");
        Check.writes(Math.nextDown(0.1), "0.09999999999999999");
        Check.writes(0.3, "0.3");
        Check.writes(0.1 + 0.2, "0.30000000000000004");
        Check.writes(1.0 / 3, "0.3333333333333333");
        Check.writes(Math.nextUp(1.0), "1.0000000000000002");
        Check.writes(Math.nextDown(1.0), "0.9999999999999999");
        Check.writes(123456789012345678.0, "123456789012345680");
        Check.writes(0x1p60, "1152921504606847000");
        // 10^23 is the middle of two numbers and rounds to the even one, the lower
        Check.writes(1e23, "1e+23");
        Check.writes(Math.nextUp(1e23), "1.0000000000000001e+23");
        Check.writes(Math.nextDown(1e23), "9.999999999999997e+22");
        // 2^-44 has its lower neighbour twice as near: ..801 is nearer to it, but does not round to it
        Check.writes(0x1p-44, "5.684341886080802e-14");
        Check.writes(0x1p54, "18014398509481984");
        Check.writes(5e-324, "5e-324");
    }

    private static void whatRoundsToItAtTheVeryEnds() {
        Check.sentence("s * 10^(n - k) rounds to it, also from the middle of two numbers if its fraction is even");
        // the last place is 4: ..90 is 2 below the first, ..10 is 2 above the second, and both are even
        Check.writes(0x1p54 + 8, "18014398509481990");
        Check.writes(0x1p54 + 24, "18014398509482010");
        // ..10 is 2 below the first, ..90 is 2 above the second, but both are odd
        Check.writes(0x1p54 + 28, "18014398509482012");
        Check.writes(0x1p54 + 4, "18014398509481988");
    }

    private static void whatRoundsToAPowerOf2() {
        Check.sentence("s * 10^(n - k) rounds to it, also when the lower neighbour is twice as near as the upper one");
        // shorter, or nearer, or as near and even ones below each of these round to the lower neighbour
        Check.writes(0x1p65, "36893488147419103000");
        Check.writes(0x1p66, "73786976294838210000");
        Check.writes(0x1p89, "6.189700196426902e+26");
        Check.writes(0x1p-24, "5.960464477539063e-8");
        Check.writes(0x1p-1017, "7.120236347223045e-307");
        Check.writes(0x1p-1019, "1.7800590868057611e-307");
    }

    private static void ofSeveralTheNearest() {
        Check.sentence("of several s the one nearest to it");
        // 3 .. 7 would round to the first as well, 13 .. 17 to the third, 23 .. 27 to the fifth
        Check.writesBits(1, "5e-324");
        Check.writesBits(2, "1e-323");
        Check.writesBits(3, "1.5e-323");
        Check.writesBits(4, "2e-323");
        Check.writesBits(5, "2.5e-323");
        Check.writesBits(6, "3e-323");
        Check.writesBits(7, "3.5e-323");
        Check.writesBits(0x000FFFFFFFFFFFFFL, "2.225073858507201e-308");
        Check.writes(0x1p53, "9007199254740992");
        Check.writes(0x1p54 + 4, "18014398509481988");
        Check.writes(0x1p63, "9223372036854776000");
        Check.writes(0x1p63 + 2048, "9223372036854778000");
    }

    private static void ofTwoAsNearTheEvenOne() {
        Check.sentence("of two as near the even one");
        // with a last place of 1/4 or 1/8 both neighbours of .25 and of .75 round to it
        Check.writes(0x1p50 + 0.25, "1125899906842624.2");
        Check.writes(0x1p50 + 0.75, "1125899906842624.8");
        Check.writes(0x1p50 + 1.25, "1125899906842625.2");
        Check.writes(0x1p50 + 1.75, "1125899906842625.8");
        Check.writes(0x1p49 + 0.25, "562949953421312.2");
        Check.writes(0x1p49 + 0.75, "562949953421312.8");
        Check.writes(-0x1p50 - 0.25, "-1125899906842624.2");
        Check.writes(-0x1p50 - 0.75, "-1125899906842624.8");
        // 2.98023223876953125e-8, of which the lower neighbour is twice as near
        Check.writes(0x1p-25, "2.9802322387695312e-8");
    }

    private static void theLeastAndTheGreatest() {
        Check.sentence("the text of the least and the greatest number of each kind");
        Check.writes(Double.MIN_VALUE, "5e-324");
        Check.writes(Math.nextDown(Double.MIN_NORMAL), "2.225073858507201e-308");
        Check.writes(Double.MIN_NORMAL, "2.2250738585072014e-308");
        Check.writes(Math.nextDown(Double.MAX_VALUE), "1.7976931348623155e+308");
        Check.writes(Double.MAX_VALUE, "1.7976931348623157e+308");
    }

    private static void digitsAndZeros() {
        Check.sentence("k <= n <= 21: the digits of s, and n - k zeros");
        Check.writes(1, "1");
        Check.writes(9, "9");
        Check.writes(10, "10");
        Check.writes(120, "120");
        Check.writes(9007199254740993.0, "9007199254740992");
        Check.writes(12345678901234568.0, "12345678901234568");
        Check.writes(1e20, "100000000000000000000");
        Check.writes(123456789012345680000.0, "123456789012345680000");
        Check.writes(Math.nextDown(1e21), "999999999999999900000");
    }

    private static void pointBehindTheFirst() {
        Check.sentence("0 < n <= 21: a point behind the first n digits");
        Check.writes(1.5, "1.5");
        Check.writes(12.5, "12.5");
        Check.writes(Math.nextUp(1.0), "1.0000000000000002");
        Check.writes(123456.789, "123456.789");
        Check.writes(1234567890123456.8, "1234567890123456.8");
        Check.writes(4503599627370495.5, "4503599627370495.5");
    }

    private static void zeroPointAndZeros() {
        Check.sentence("-6 < n <= 0: 0. and -n zeros, and the digits");
        Check.writes(Math.nextDown(1.0), "0.9999999999999999");
        Check.writes(0.5, "0.5");
        Check.writes(0.1, "0.1");
        Check.writes(0.01, "0.01");
        Check.writes(0.00001, "0.00001");
        Check.writes(0.000001, "0.000001");
        Check.writes(0.0000015, "0.0000015");
        Check.writes(0.00000999, "0.00000999");
    }

    private static void withAnExponent() {
        Check.sentence("Otherwise the first digit, (k above 1) a point and the others, e, + or -, and the digits of n - 1");
        Check.writes(Math.nextDown(1e-6), "9.999999999999997e-7");
        Check.writes(1e-7, "1e-7");
        Check.writes(1.5e-7, "1.5e-7");
        Check.writes(1e-9, "1e-9");
        Check.writes(1e-10, "1e-10");
        Check.writes(1e-99, "1e-99");
        Check.writes(1e-100, "1e-100");
        Check.writes(1e21, "1e+21");
        Check.writes(Math.nextUp(1e21), "1.0000000000000001e+21");
        Check.writes(1.5e21, "1.5e+21");
        Check.writes(1e22, "1e+22");
        Check.writes(1e99, "1e+99");
        Check.writes(1e100, "1e+100");
        // each digit of an exponent, and the nines and zeros around it
        Check.writes(3e109, "3e+109");
        Check.writes(3e110, "3e+110");
        Check.writes(3e199, "3e+199");
        Check.writes(3e200, "3e+200");
        Check.writes(3e299, "3e+299");
        Check.writes(3e300, "3e+300");
        Check.writes(3e-199, "3e-199");
        Check.writes(3e-200, "3e-200");
        Check.writes(3e-300, "3e-300");
        Check.writes(1e308, "1e+308");
    }

    private static void howManyUnits() {
        Check.sentence("Promise 9: how many units it has");
        Subject x = new Subject();
        Check.same("write(0)", x.write(0), 1);
        Check.same("write of NAN", x.write(Check.NAN), 3);
        Check.same("write of -Infinity", x.write(Check.bits(-Check.INFINITE)), 9);
        Check.same("write of a text of 24 units", x.write(Check.bits(-2.2250738585072014e-308)), 24);
        Check.same("write of a text of 25 units", x.write(Check.bits(-0.0000012345678901234567)), 25);
        Check.same("write of 5", x.write(Check.bits(5)), 1);
    }
}
