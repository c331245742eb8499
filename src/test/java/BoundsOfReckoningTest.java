/** The bounds of the term RECKONING: add, subtract, multiply, divide and remainder. */
final class BoundsOfReckoningTest {
    private static final int ADD = 0;
    private static final int SUBTRACT = 1;
    private static final int MULTIPLY = 2;
    private static final int DIVIDE = 3;
    private static final int REMAINDER = 4;
    private static final double INFINITE = Check.INFINITE;
    private static final double LEAST = Double.MIN_VALUE;
    private static final double GREATEST = Double.MAX_VALUE;
    private static final double[] SIGNS = {1, -1};

    public static void main(String[] args) {
        nanWithANan();
        nanFromInfiniteOnesAddedOrSubtracted();
        infiniteOnesThatStay();
        nanFromZeroTimesInfinite();
        nanFromQuotientsOfZerosAndInfiniteOnes();
        aSumThatIs0();
        aDifferenceThatIs0();
        signsOfProducts();
        signsOfQuotients();
        aDivisor0();
        remainderIsNan();
        remainderIsA();
        remainderHasTheSignOfA();
        remainderIsExact();
        thereIsNoSuchWhat();
        Check.end();
    }

    private static void nan(double a, double b, int what) {
        Check.reckonsBits(Check.bits(a), Check.bits(b), what, Check.NAN);
    }

    private static void nanWithANan() {
        Check.sentence("NAN with a NAN");
        for (int what = ADD; what <= REMAINDER; what++) {
            for (double other : new double[] {0.0, -0.0, 1, -1, LEAST, GREATEST, INFINITE, -INFINITE, Double.NaN}) {
                nan(Double.NaN, other, what);
                nan(other, Double.NaN, what);
            }
        }
    }

    private static void nanFromInfiniteOnesAddedOrSubtracted() {
        Check.sentence("NAN .. from infinite ones of unlike sign added, of the same subtracted");
        nan(INFINITE, -INFINITE, ADD);
        nan(-INFINITE, INFINITE, ADD);
        nan(INFINITE, INFINITE, SUBTRACT);
        nan(-INFINITE, -INFINITE, SUBTRACT);
    }

    private static void infiniteOnesThatStay() {
        Check.sentence("ADD, SUBTRACT .. as IEEE 754 says, with an infinite one");
        for (double sign : SIGNS) {
            double infinite = sign * INFINITE;
            Check.reckons(infinite, infinite, ADD, infinite);
            Check.reckons(infinite, -infinite, SUBTRACT, infinite);
            for (double other : new double[] {0.0, -0.0, LEAST, -1, GREATEST, -GREATEST}) {
                Check.reckons(infinite, other, ADD, infinite);
                Check.reckons(other, infinite, ADD, infinite);
                Check.reckons(infinite, other, SUBTRACT, infinite);
                Check.reckons(other, infinite, SUBTRACT, -infinite);
            }
        }
    }

    private static void nanFromZeroTimesInfinite() {
        Check.sentence("NAN .. zero times infinite");
        for (double one : SIGNS) {
            for (double other : SIGNS) {
                nan(one * 0.0, other * INFINITE, MULTIPLY);
                nan(one * INFINITE, other * 0.0, MULTIPLY);
                Check.reckons(one * LEAST, other * INFINITE, MULTIPLY, one * other * INFINITE);
                Check.reckons(one * INFINITE, other * LEAST, MULTIPLY, one * other * INFINITE);
            }
        }
    }

    private static void nanFromQuotientsOfZerosAndInfiniteOnes() {
        Check.sentence("NAN .. zero by zero, infinite by infinite");
        for (double one : SIGNS) {
            for (double other : SIGNS) {
                nan(one * 0.0, other * 0.0, DIVIDE);
                nan(one * INFINITE, other * INFINITE, DIVIDE);
            }
        }
    }

    private static void aSumThatIs0() {
        Check.sentence("a sum that is 0 has the sign of both if they have the same, otherwise +");
        Check.reckons(0.0, 0.0, ADD, 0.0);
        Check.reckons(-0.0, -0.0, ADD, -0.0);
        Check.reckons(0.0, -0.0, ADD, 0.0);
        Check.reckons(-0.0, 0.0, ADD, 0.0);
        for (double a : new double[] {LEAST, Double.MIN_NORMAL, 1, GREATEST}) {
            Check.reckons(a, -a, ADD, 0.0);
            Check.reckons(-a, a, ADD, 0.0);
            Check.reckons(a, -0.0, ADD, a);
            Check.reckons(0.0, -a, ADD, -a);
        }
    }

    private static void aDifferenceThatIs0() {
        Check.sentence("a difference that of a and the opposite of b");
        Check.reckons(0.0, 0.0, SUBTRACT, 0.0);
        Check.reckons(-0.0, -0.0, SUBTRACT, 0.0);
        Check.reckons(0.0, -0.0, SUBTRACT, 0.0);
        Check.reckons(-0.0, 0.0, SUBTRACT, -0.0);
        for (double a : new double[] {LEAST, Double.MIN_NORMAL, 1, GREATEST}) {
            Check.reckons(a, a, SUBTRACT, 0.0);
            Check.reckons(-a, -a, SUBTRACT, 0.0);
            Check.reckons(0.0, a, SUBTRACT, -a);
            Check.reckons(-0.0, -a, SUBTRACT, a);
        }
    }

    private static void signsOfProducts() {
        Check.sentence("a product .. a sign unlike when the signs are, also 0 and infinite ones");
        for (double one : SIGNS) {
            for (double other : SIGNS) {
                double sign = one * other;
                Check.reckons(one * 2, other * 3, MULTIPLY, sign * 6);
                Check.reckons(one * 0.0, other * 3, MULTIPLY, sign * 0.0);
                Check.reckons(one * 2, other * 0.0, MULTIPLY, sign * 0.0);
                Check.reckons(one * 0.0, other * 0.0, MULTIPLY, sign * 0.0);
                Check.reckons(one * LEAST, other * LEAST, MULTIPLY, sign * 0.0);
                Check.reckons(one * GREATEST, other * 2, MULTIPLY, sign * INFINITE);
                Check.reckons(one * INFINITE, other * 2, MULTIPLY, sign * INFINITE);
                Check.reckons(one * 2, other * INFINITE, MULTIPLY, sign * INFINITE);
                Check.reckons(one * INFINITE, other * INFINITE, MULTIPLY, sign * INFINITE);
            }
        }
    }

    private static void signsOfQuotients() {
        Check.sentence("a quotient .. a sign unlike when the signs are, also 0 and infinite ones");
        for (double one : SIGNS) {
            for (double other : SIGNS) {
                double sign = one * other;
                Check.reckons(one * 6, other * 3, DIVIDE, sign * 2);
                Check.reckons(one * 0.0, other * 3, DIVIDE, sign * 0.0);
                Check.reckons(one * 2, other * INFINITE, DIVIDE, sign * 0.0);
                Check.reckons(one * 0.0, other * INFINITE, DIVIDE, sign * 0.0);
                Check.reckons(one * GREATEST, other * INFINITE, DIVIDE, sign * 0.0);
                Check.reckons(one * INFINITE, other * 2, DIVIDE, sign * INFINITE);
                Check.reckons(one * INFINITE, other * LEAST, DIVIDE, sign * INFINITE);
                Check.reckons(one * GREATEST, other * LEAST, DIVIDE, sign * INFINITE);
                Check.reckons(one * LEAST, other * GREATEST, DIVIDE, sign * 0.0);
            }
        }
    }

    private static void aDivisor0() {
        Check.sentence("a divisor 0 gives an infinite one");
        for (double one : SIGNS) {
            for (double other : SIGNS) {
                for (double a : new double[] {LEAST, 1, GREATEST, INFINITE}) {
                    Check.reckons(one * a, other * 0.0, DIVIDE, one * other * INFINITE);
                }
            }
        }
    }

    private static void remainderIsNan() {
        Check.sentence("REMAINDER: NAN with a NAN, an infinite a, or b zero");
        for (double one : SIGNS) {
            for (double b : new double[] {0.0, -0.0, LEAST, -1, GREATEST, INFINITE, -INFINITE}) {
                nan(one * INFINITE, b, REMAINDER);
            }
            for (double a : new double[] {0.0, -0.0, LEAST, -1, GREATEST, INFINITE}) {
                nan(a, one * 0.0, REMAINDER);
            }
        }
    }

    private static void remainderIsA() {
        Check.sentence("a when b is infinite or a is zero");
        for (double sign : SIGNS) {
            for (double a : new double[] {0.0, -0.0, LEAST, -LEAST, 1, -1, GREATEST, -GREATEST}) {
                Check.reckons(a, sign * INFINITE, REMAINDER, a);
            }
            for (double b : new double[] {LEAST, Double.MIN_NORMAL, 1, GREATEST, INFINITE}) {
                Check.reckons(0.0, sign * b, REMAINDER, 0.0);
                Check.reckons(-0.0, sign * b, REMAINDER, -0.0);
            }
        }
    }

    private static void remainderHasTheSignOfA() {
        Check.sentence("with a's sign (also when it is 0)");
        for (double sign : SIGNS) {
            Check.reckons(5.5, sign * 2, REMAINDER, 1.5);
            Check.reckons(-5.5, sign * 2, REMAINDER, -1.5);
            Check.reckons(6, sign * 3, REMAINDER, 0.0);
            Check.reckons(-6, sign * 3, REMAINDER, -0.0);
            for (double a : new double[] {LEAST, 1, GREATEST}) {
                Check.reckons(a, sign * a, REMAINDER, 0.0);
                Check.reckons(-a, sign * a, REMAINDER, -0.0);
            }
        }
    }

    private static void remainderIsExact() {
        Check.sentence("a less b times the quotient cut off, exactly");
        Check.reckons(Math.nextDown(3.0), 3, REMAINDER, Math.nextDown(3.0));
        Check.reckons(3, Math.nextDown(3.0), REMAINDER, 3 - Math.nextDown(3.0));
        Check.reckons(Math.nextUp(3.0), 3, REMAINDER, Math.nextUp(3.0) - 3);
        Check.reckons(Math.nextDown(6.0), 3, REMAINDER, Math.nextDown(6.0) - 3);
        Check.reckons(7.5, 2, REMAINDER, 1.5);
        Check.reckons(1, 0.1, REMAINDER, 0.09999999999999995);
        Check.reckons(GREATEST, LEAST, REMAINDER, 0.0);
        Check.reckons(-GREATEST, LEAST, REMAINDER, -0.0);
        // 2^n mod 3 is 1 or 2 as n is even or odd; mod 7 it goes round by threes
        Check.reckons(0x1p1023, 3, REMAINDER, 2);
        Check.reckons(0x1p1022, 3, REMAINDER, 1);
        Check.reckons(0x1p1023, 7, REMAINDER, 1);
        Check.reckons(0x1p1023, 3 * LEAST, REMAINDER, 2 * LEAST);
        Check.reckons(1, 3 * LEAST, REMAINDER, LEAST);
        Check.reckons(LEAST, Double.MIN_NORMAL, REMAINDER, LEAST);
        Check.reckonsBits(0x0010000000000000L, 0x000FFFFFFFFFFFFFL, REMAINDER, 1);
    }

    private static void thereIsNoSuchWhat() {
        Check.sentence("Promise 4: IllegalArgumentException: there is no such what");
        for (long a : new long[] {0, Check.bits(1), Check.bits(INFINITE), Check.NAN}) {
            for (int what : new int[] {-1, 5, 6, 7, 256, Integer.MAX_VALUE, Integer.MIN_VALUE}) {
                Check.throwsJust("what " + what, IllegalArgumentException.class,
                        () -> Check.subject(1).reckon(a, a, what));
            }
        }
        Check.reckons(7, 2, 0, 9);
        Check.reckons(7, 2, 4, 1);
    }
}
