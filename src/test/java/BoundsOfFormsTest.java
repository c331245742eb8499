/** The bounds of the terms FIXED, EXPONENTIAL and PRECISE, and of promise 11. */
final class BoundsOfFormsTest {
    private static final int FIXED = 0;
    private static final int EXPONENTIAL = 1;
    private static final int PRECISE = 2;
    private static final double INFINITE = Check.INFINITE;
    private static final double LEAST = Double.MIN_VALUE;
    private static final double GREATEST = Double.MAX_VALUE;
    private static final double BELOW_TO_21 = Math.nextDown(1e21);

    public static void main(String[] args) {
        fixedDigits();
        fixedText();
        fixedBelow0();
        fixedNearest();
        fixedOfTwoTheGreater();
        fixedPoint();
        fixedZerosBefore();
        exponentialDigits();
        exponentialText();
        exponentialBelow0();
        exponentialOf0();
        exponentialNearest();
        exponentialOfTwoTheGreater();
        exponentialOfTheFewest();
        exponentialLayout();
        preciseDigits();
        preciseText();
        preciseOf0();
        preciseNearest();
        preciseWithAnExponent();
        precisePoint();
        preciseZerosBefore();
        thereIsNoSuchForm();
        digitsIsNotSo();
        Check.end();
    }

    private static void fixed(double a, int digits, String due) {
        Check.forms(a, FIXED, digits, due);
    }

    private static void exponential(double a, int digits, String due) {
        Check.forms(a, EXPONENTIAL, digits, due);
    }

    private static void precise(double a, int digits, String due) {
        Check.forms(a, PRECISE, digits, due);
    }

    private static void fixedDigits() {
        Check.sentence("FIXED, f digits (0 .. 20)");
        fixed(1.5, 0, "2");
        fixed(1.5, 1, "1.5");
        fixed(1.5, 19, "1.5" + "0".repeat(18));
        fixed(1.5, 20, "1.5" + "0".repeat(19));
        fixed(0.1, 20, "0.10000000000000000555");
        fixed(BELOW_TO_21, 20, "999999999999999868928." + "0".repeat(20));
    }

    private static void fixedText() {
        Check.sentence("NaN, and from 10^21 on (and for infinite ones) the text");
        for (int digits : new int[] {0, 1, 20}) {
            Check.formsBits(0xFFF8000000000001L, FIXED, digits, "NaN");
            fixed(INFINITE, digits, "Infinity");
            fixed(-INFINITE, digits, "-Infinity");
            fixed(1e21, digits, "1e+21");
            fixed(Math.nextUp(1e21), digits, "1.0000000000000001e+21");
            fixed(-1e21, digits, "-1e+21");
            fixed(GREATEST, digits, "1.7976931348623157e+308");
            fixed(-GREATEST, digits, "-1.7976931348623157e+308");
        }
        fixed(BELOW_TO_21, 0, "999999999999999868928");
        fixed(-BELOW_TO_21, 0, "-999999999999999868928");
        fixed(BELOW_TO_21, 1, "999999999999999868928.0");
        fixed(1e20, 0, "100000000000000000000");
    }

    private static void fixedBelow0() {
        Check.sentence("- for what is below 0 (also when nothing but zeros is left; -0 is not below 0 ..)");
        fixed(-1, 0, "-1");
        fixed(-0.4, 0, "-0");
        fixed(-LEAST, 0, "-0");
        fixed(-LEAST, 20, "-0." + "0".repeat(20));
        fixed(-0.004, 2, "-0.00");
        fixed(-0.0, 0, "0");
        fixed(-0.0, 2, "0.00");
        fixed(-0.0, 20, "0." + "0".repeat(20));
        fixed(0.0, 0, "0");
        fixed(0.0, 1, "0.0");
        fixed(LEAST, 0, "0");
        fixed(LEAST, 20, "0." + "0".repeat(20));
    }

    private static void fixedNearest() {
        Check.sentence("the whole number n with n / 10^f as near as can be");
        fixed(Math.nextDown(0.5), 0, "0");
        fixed(Math.nextUp(0.5), 0, "1");
        fixed(Math.nextDown(1.5), 0, "1");
        fixed(Math.nextDown(2.5), 0, "2");
        fixed(1.005, 2, "1.00");
        fixed(1.45, 1, "1.4");
        fixed(8.345, 2, "8.35");
        fixed(0.000001, 7, "0.0000010");
        fixed(5e-21, 20, "0.00000000000000000000");
        fixed(Math.nextUp(5e-21), 20, "0.00000000000000000001");
        fixed(1e-20, 20, "0.00000000000000000001");
        fixed(0.99, 1, "1.0");
        fixed(9.99, 1, "10.0");
        fixed(99.999, 2, "100.00");
        fixed(999999.5, 0, "1000000");
        fixed(0.9999999999999999, 15, "1." + "0".repeat(15));
    }

    private static void fixedOfTwoTheGreater() {
        Check.sentence("of two the greater one");
        fixed(0.5, 0, "1");
        fixed(1.5, 0, "2");
        fixed(2.5, 0, "3");
        fixed(-0.5, 0, "-1");
        fixed(-1.5, 0, "-2");
        fixed(-2.5, 0, "-3");
        fixed(0.25, 1, "0.3");
        fixed(0.75, 1, "0.8");
        fixed(0.125, 2, "0.13");
        fixed(0.375, 2, "0.38");
        fixed(-0.125, 2, "-0.13");
        fixed(9.5, 0, "10");
        fixed(99.5, 0, "100");
        fixed(0.0625, 3, "0.063");
        fixed(0x1p-20, 19, "0.0000009536743164063");
    }

    private static void fixedPoint() {
        Check.sentence("its digits with a point before the last f ones (f above 0)");
        fixed(123, 0, "123");
        fixed(123, 1, "123.0");
        fixed(123.456, 2, "123.46");
        fixed(123.456, 3, "123.456");
    }

    private static void fixedZerosBefore() {
        Check.sentence("with zeros before them as far as needed for one before the point");
        fixed(0.5, 1, "0.5");
        fixed(0.05, 2, "0.05");
        fixed(0.05, 20, "0.05000000000000000278");
        fixed(0.00001, 5, "0.00001");
        fixed(0.00001, 4, "0.0000");
        fixed(1, 1, "1.0");
        fixed(0.95, 1, "0.9");
        fixed(0.96875, 1, "1.0");
    }

    private static void exponentialDigits() {
        Check.sentence("EXPONENTIAL, f digits (0 .. 20, or -1)");
        exponential(1.5, -1, "1.5e+0");
        exponential(1.5, 0, "2e+0");
        exponential(1.5, 1, "1.5e+0");
        exponential(1.5, 19, "1.5" + "0".repeat(18) + "e+0");
        exponential(1.5, 20, "1.5" + "0".repeat(19) + "e+0");
        exponential(0.1, 20, "1.00000000000000005551e-1");
    }

    private static void exponentialText() {
        Check.sentence("NaN, infinite ones as the text");
        for (int digits : new int[] {-1, 0, 20}) {
            Check.formsBits(0xFFF0000000000001L, EXPONENTIAL, digits, "NaN");
            exponential(INFINITE, digits, "Infinity");
            exponential(-INFINITE, digits, "-Infinity");
        }
    }

    private static void exponentialBelow0() {
        Check.sentence("- likewise (-0 is not below 0)");
        exponential(-1.5, -1, "-1.5e+0");
        exponential(-12345, 2, "-1.23e+4");
        exponential(-LEAST, 0, "-5e-324");
        exponential(-0.0, -1, "0e+0");
        exponential(-0.0, 0, "0e+0");
        exponential(-0.0, 1, "0.0e+0");
    }

    private static void exponentialOf0() {
        Check.sentence("for 0 n is 0 and e is 0 (f -1: as with 0)");
        exponential(0.0, -1, "0e+0");
        exponential(0.0, 0, "0e+0");
        exponential(0.0, 1, "0.0e+0");
        exponential(0.0, 20, "0." + "0".repeat(20) + "e+0");
    }

    private static void exponentialNearest() {
        Check.sentence("e and n with 10^f <= n < 10^(f + 1) such that n * 10^(e - f) is as near as can be");
        exponential(12345, 4, "1.2345e+4");
        exponential(12344, 3, "1.234e+4");
        exponential(12346, 3, "1.235e+4");
        exponential(Math.nextDown(9.5), 0, "9e+0");
        exponential(Math.nextUp(9.5), 0, "1e+1");
        exponential(9.99, 1, "1.0e+1");
        exponential(99.96, 2, "1.00e+2");
        exponential(0.0999, 1, "1.0e-1");
        exponential(1e21, 0, "1e+21");
        exponential(1e23, 20, "9.99999999999999916114e+22");
        exponential(Math.nextDown(1.0), 0, "1e+0");
        exponential(Math.nextDown(1.0), 14, "1." + "0".repeat(14) + "e+0");
        exponential(Math.nextDown(1.0), 15, "9.999999999999999e-1");
        exponential(Math.nextDown(1.0), 16, "9.9999999999999989e-1");
        exponential(LEAST, 20, "4.94065645841246544177e-324");
        exponential(LEAST, 0, "5e-324");
        exponential(GREATEST, 20, "1.79769313486231570815e+308");
        exponential(GREATEST, 0, "2e+308");
    }

    private static void exponentialOfTwoTheGreater() {
        Check.sentence("of two the greater one");
        exponential(25, 0, "3e+1");
        exponential(35, 0, "4e+1");
        exponential(-25, 0, "-3e+1");
        exponential(12345, 3, "1.235e+4");
        exponential(1.25, 1, "1.3e+0");
        exponential(0.125, 1, "1.3e-1");
        exponential(9.5, 0, "1e+1");
        exponential(99.5, 1, "1.0e+2");
        exponential(0x1p-20, 12, "9.536743164063e-7");
    }

    private static void exponentialOfTheFewest() {
        Check.sentence("(f -1: n's digits those of s above)");
        exponential(1, -1, "1e+0");
        exponential(10, -1, "1e+1");
        exponential(0.1, -1, "1e-1");
        exponential(0.1 + 0.2, -1, "3.0000000000000004e-1");
        exponential(123456, -1, "1.23456e+5");
        exponential(1e21, -1, "1e+21");
        exponential(1e23, -1, "1e+23");
        exponential(LEAST, -1, "5e-324");
        exponential(-GREATEST, -1, "-1.7976931348623157e+308");
        exponential(0x1p50 + 0.25, -1, "1.1258999068426242e+15");
    }

    private static void exponentialLayout() {
        Check.sentence("the first digit, (f above 0) a point and the others, e, + or -, e's digits");
        exponential(7, 0, "7e+0");
        exponential(7, 1, "7.0e+0");
        exponential(0.7, 0, "7e-1");
        exponential(7e9, 0, "7e+9");
        exponential(7e10, 0, "7e+10");
        exponential(7e99, 1, "7.0e+99");
        exponential(7e100, 1, "7.0e+100");
        exponential(7e199, 1, "7.0e+199");
        exponential(7e299, 0, "7e+299");
        exponential(7e300, 0, "7e+300");
        exponential(7e-199, 1, "7.0e-199");
        exponential(7e-9, 0, "7e-9");
        exponential(7e-10, 0, "7e-10");
        exponential(7e-99, 1, "7.0e-99");
        exponential(7e-100, 1, "7.0e-100");
    }

    private static void preciseDigits() {
        Check.sentence("PRECISE, p digits (1 .. 21)");
        precise(1.5, 1, "2");
        precise(1.5, 2, "1.5");
        precise(1.5, 20, "1.5" + "0".repeat(18));
        precise(1.5, 21, "1.5" + "0".repeat(19));
        precise(0.1, 21, "0.100000000000000005551");
    }

    private static void preciseText() {
        Check.sentence("PRECISE: likewise (NaN, infinite ones as the text; - likewise, -0 is not below 0)");
        for (int digits : new int[] {1, 21}) {
            Check.formsBits(0xFFF0000000000001L, PRECISE, digits, "NaN");
            precise(INFINITE, digits, "Infinity");
            precise(-INFINITE, digits, "-Infinity");
        }
        precise(-1.5, 2, "-1.5");
        precise(-123, 1, "-1e+2");
        precise(-LEAST, 1, "-5e-324");
        precise(-0.0, 1, "0");
        precise(-0.0, 2, "0.0");
    }

    private static void preciseOf0() {
        Check.sentence("(of 0: p zeros, e 0)");
        precise(0.0, 1, "0");
        precise(0.0, 2, "0.0");
        precise(0.0, 21, "0." + "0".repeat(20));
        precise(-0.0, 21, "0." + "0".repeat(20));
    }

    private static void preciseNearest() {
        Check.sentence("likewise with p - 1 for f (as near as can be, of two the greater one)");
        precise(1.25, 2, "1.3");
        precise(-1.25, 2, "-1.3");
        precise(Math.nextDown(1.25), 2, "1.2");
        precise(2.5, 1, "3");
        precise(9.5, 1, "1e+1");
        precise(Math.nextDown(9.5), 1, "9");
        precise(99.5, 2, "1.0e+2");
        precise(0.95, 1, "0.9");
        precise(0.9999, 2, "1.0");
        precise(123456, 6, "123456");
        precise(123456.5, 6, "123457");
    }

    private static void preciseWithAnExponent() {
        Check.sentence("with e below -6 or not below p the same form");
        precise(0.000001, 1, "0.000001");
        precise(0.000001, 21, "9.99999999999999954748e-7");
        precise(Math.nextDown(0.000001), 1, "0.000001");
        precise(0.0000001, 1, "1e-7");
        precise(0.0000001, 2, "1.0e-7");
        precise(0.00000094, 1, "9e-7");
        precise(0.00000099, 1, "0.000001");
        precise(0.00000099, 2, "9.9e-7");
        precise(9, 1, "9");
        precise(10, 1, "1e+1");
        precise(10, 2, "10");
        precise(99, 2, "99");
        precise(100, 2, "1.0e+2");
        precise(99.5, 3, "99.5");
        precise(999.5, 3, "1.00e+3");
        precise(1e20, 21, "100000000000000000000");
        precise(BELOW_TO_21, 21, "999999999999999868928");
        precise(1e21, 21, "1.00000000000000000000e+21");
        precise(GREATEST, 21, "1.79769313486231570815e+308");
        precise(LEAST, 21, "4.94065645841246544177e-324");
    }

    private static void precisePoint() {
        Check.sentence("otherwise the digits with a point behind the (e + 1)st unless it is the last");
        precise(123, 3, "123");
        precise(123, 4, "123.0");
        precise(123, 5, "123.00");
        precise(1, 1, "1");
        precise(1, 2, "1.0");
        precise(123.456, 5, "123.46");
        precise(12345.678, 6, "12345.7");
        precise(12345.678, 5, "12346");
    }

    private static void preciseZerosBefore() {
        Check.sentence("when e is below 0, 0. and -(e + 1) zeros before them");
        precise(0.5, 1, "0.5");
        precise(0.5, 3, "0.500");
        precise(0.05, 1, "0.05");
        precise(0.00123, 2, "0.0012");
        precise(0.00001, 2, "0.000010");
        precise(0.0000015, 2, "0.0000015");
        precise(-0.0000015, 2, "-0.0000015");
    }

    private static void refused(int form, int digits) {
        for (long a : new long[] {0, Check.bits(1.5), Check.bits(1e300), Check.bits(-INFINITE), Check.NAN}) {
            Check.throwsJust("form " + form + " of " + digits + " digits", IllegalArgumentException.class,
                    () -> Check.subject(1).form(a, form, digits));
        }
    }

    private static void thereIsNoSuchForm() {
        Check.sentence("IllegalArgumentException: there is no such form");
        for (int form : new int[] {-1, 3, 4, 256, Integer.MAX_VALUE, Integer.MIN_VALUE}) {
            for (int digits : new int[] {1, 20, 0, -1, 21, -2, 22}) {
                refused(form, digits);
            }
        }
    }

    private static void digitsIsNotSo() {
        Check.sentence("IllegalArgumentException: .. or digits is not so");
        refused(FIXED, -1);
        refused(FIXED, 21);
        refused(EXPONENTIAL, -2);
        refused(EXPONENTIAL, 21);
        refused(PRECISE, 0);
        refused(PRECISE, -1);
        refused(PRECISE, 22);
        for (int form = FIXED; form <= PRECISE; form++) {
            for (int digits : new int[] {-3, 23, 100, 256, 258, 65537, Integer.MAX_VALUE, Integer.MIN_VALUE}) {
                refused(form, digits);
            }
        }
    }
}
