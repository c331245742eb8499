/** The bounds of the terms ROOT, FLOOR, CEILING, CUT and NEAREST, and of promise 5. */
final class BoundsOfTurningTest {
    private static final int ROOT = 0;
    private static final int FLOOR = 1;
    private static final int CEILING = 2;
    private static final int CUT = 3;
    private static final int NEAREST = 4;
    private static final int OPPOSITE = 5;
    private static final int WITHOUT_SIGN = 6;
    private static final double INFINITE = Check.INFINITE;
    private static final double LEAST = Double.MIN_VALUE;
    private static final double GREATEST = Double.MAX_VALUE;
    /** From here on all numbers are whole. */
    private static final double ALL_WHOLE = 0x1p52;

    public static void main(String[] args) {
        rootBelow0();
        rootOfZeros();
        rootRounded();
        floor();
        ceiling();
        cut();
        nearest();
        nearestExactly();
        whatStays();
        aResult0HasTheSignOfA();
        opposite();
        withoutItsSign();
        ofNanAlwaysNan();
        thereIsNoSuchWhat();
        Check.end();
    }

    private static void rootBelow0() {
        Check.sentence("ROOT: NAN below 0");
        for (double a : new double[] {-LEAST, -Double.MIN_NORMAL, -1, -4, -GREATEST, -INFINITE}) {
            Check.turnsBits(Check.bits(a), ROOT, Check.NAN);
        }
    }

    private static void rootOfZeros() {
        Check.sentence("ROOT: .. (-0 stays)");
        Check.turns(-0.0, ROOT, -0.0);
        Check.turns(0.0, ROOT, 0.0);
    }

    private static void rootRounded() {
        Check.sentence("ROOT: .. else rounded");
        Check.turns(LEAST, ROOT, 0x1p-537);
        Check.turns(2 * LEAST, ROOT, 0x1.6a09e667f3bcdp-537);
        Check.turns(Double.MIN_NORMAL, ROOT, 0x1p-511);
        Check.turns(0x1p1022, ROOT, 0x1p511);
        Check.turns(GREATEST, ROOT, 0x1.fffffffffffffp511);
        Check.turns(INFINITE, ROOT, INFINITE);
        Check.turns(1, ROOT, 1);
        Check.turns(4, ROOT, 2);
        Check.turns(2, ROOT, 1.4142135623730951);
        Check.turns(0.25, ROOT, 0.5);
        Check.turns(9007199136250225.0, ROOT, 94906265);
        // just below the middle of two numbers each
        Check.turns(Math.nextDown(1.0), ROOT, Math.nextDown(1.0));
        Check.turns(Math.nextUp(1.0), ROOT, 1);
        Check.turns(1 + 0x1p-51, ROOT, 1 + 0x1p-52);
    }

    private static void floor() {
        Check.sentence("FLOOR .. the greatest whole number not above a");
        Check.turns(LEAST, FLOOR, 0.0);
        Check.turns(-LEAST, FLOOR, -1);
        Check.turns(Math.nextDown(1.0), FLOOR, 0.0);
        Check.turns(1, FLOOR, 1);
        Check.turns(-1, FLOOR, -1);
        Check.turns(Math.nextDown(-1.0), FLOOR, -2);
        Check.turns(Math.nextUp(-1.0), FLOOR, -1);
        Check.turns(Math.nextDown(ALL_WHOLE), FLOOR, ALL_WHOLE - 1);
        Check.turns(-Math.nextDown(ALL_WHOLE), FLOOR, -ALL_WHOLE);
        staysWhole(FLOOR);
    }

    private static void ceiling() {
        Check.sentence("CEILING .. the least not below it");
        Check.turns(LEAST, CEILING, 1);
        Check.turns(-LEAST, CEILING, -0.0);
        Check.turns(Math.nextUp(1.0), CEILING, 2);
        Check.turns(Math.nextDown(1.0), CEILING, 1);
        Check.turns(1, CEILING, 1);
        Check.turns(-1, CEILING, -1);
        Check.turns(Math.nextUp(-1.0), CEILING, -0.0);
        Check.turns(Math.nextDown(-1.0), CEILING, -1);
        Check.turns(Math.nextDown(ALL_WHOLE), CEILING, ALL_WHOLE);
        Check.turns(-Math.nextDown(ALL_WHOLE), CEILING, 1 - ALL_WHOLE);
        staysWhole(CEILING);
    }

    private static void cut() {
        Check.sentence("CUT .. the one between a and 0 nearest to a");
        for (double sign : new double[] {1, -1}) {
            Check.turns(sign * LEAST, CUT, sign * 0.0);
            Check.turns(sign * Math.nextDown(1.0), CUT, sign * 0.0);
            Check.turns(sign, CUT, sign);
            Check.turns(sign * Math.nextDown(2.0), CUT, sign);
            Check.turns(sign * Math.nextDown(ALL_WHOLE), CUT, sign * (ALL_WHOLE - 1));
        }
        staysWhole(CUT);
    }

    private static void nearest() {
        Check.sentence("NEAREST: the floor of a + 1/2");
        Check.turns(0.5, NEAREST, 1);
        Check.turns(-0.5, NEAREST, -0.0);
        Check.turns(1.5, NEAREST, 2);
        Check.turns(-1.5, NEAREST, -1);
        Check.turns(2.5, NEAREST, 3);
        Check.turns(-2.5, NEAREST, -2);
        Check.turns(Math.nextDown(1.5), NEAREST, 1);
        Check.turns(Math.nextDown(-1.5), NEAREST, -2);
        Check.turns(Math.nextUp(-1.5), NEAREST, -1);
        Check.turns(LEAST, NEAREST, 0.0);
        Check.turns(-LEAST, NEAREST, -0.0);
        Check.turns(0.25, NEAREST, 0.0);
        Check.turns(-0.25, NEAREST, -0.0);
        Check.turns(Math.nextDown(ALL_WHOLE), NEAREST, ALL_WHOLE);
        Check.turns(-Math.nextDown(ALL_WHOLE), NEAREST, 1 - ALL_WHOLE);
        staysWhole(NEAREST);
    }

    private static void nearestExactly() {
        Check.sentence("NEAREST: .. exactly");
        // a + 1/2 would round to 1, to -0 and to the even neighbour
        Check.turns(Math.nextDown(0.5), NEAREST, 0.0);
        Check.turns(Math.nextDown(-0.5), NEAREST, -1);
        Check.turns(ALL_WHOLE + 1, NEAREST, ALL_WHOLE + 1);
        Check.turns(ALL_WHOLE + 3, NEAREST, ALL_WHOLE + 3);
        Check.turns(-ALL_WHOLE - 1, NEAREST, -ALL_WHOLE - 1);
        Check.turns(-ALL_WHOLE - 3, NEAREST, -ALL_WHOLE - 3);
        Check.turns(0x1.fffffffffffffp52, NEAREST, 0x1.fffffffffffffp52);
    }

    private static void staysWhole(int what) {
        for (double sign : new double[] {1, -1}) {
            for (double a : new double[] {1, 2, 3, ALL_WHOLE - 1, ALL_WHOLE, ALL_WHOLE + 1, 0x1p53, 0x1p63, GREATEST}) {
                Check.turns(sign * a, what, sign * a);
            }
        }
    }

    private static void whatStays() {
        Check.sentence("NAN, infinite ones and zeros stay");
        for (int what = FLOOR; what <= NEAREST; what++) {
            Check.turns(INFINITE, what, INFINITE);
            Check.turns(-INFINITE, what, -INFINITE);
            Check.turns(0.0, what, 0.0);
            Check.turns(-0.0, what, -0.0);
            Check.turnsBits(Check.NAN, what, Check.NAN);
        }
    }

    private static void aResult0HasTheSignOfA() {
        Check.sentence("a result 0 has a's sign");
        for (double a : new double[] {LEAST, Double.MIN_NORMAL, 0.25, Math.nextDown(0.5)}) {
            Check.turns(a, FLOOR, 0.0);
            Check.turns(a, CUT, 0.0);
            Check.turns(a, NEAREST, 0.0);
            Check.turns(-a, CEILING, -0.0);
            Check.turns(-a, CUT, -0.0);
            Check.turns(-a, NEAREST, -0.0);
        }
    }

    private static void opposite() {
        Check.sentence("Promise 5: opposite (5)");
        for (double a : new double[] {0.0, LEAST, 1, GREATEST, INFINITE}) {
            Check.turns(a, OPPOSITE, -a);
            Check.turns(-a, OPPOSITE, a);
        }
    }

    private static void withoutItsSign() {
        Check.sentence("Promise 5: without its sign (6)");
        for (double a : new double[] {0.0, LEAST, 1, GREATEST, INFINITE}) {
            Check.turns(a, WITHOUT_SIGN, a);
            Check.turns(-a, WITHOUT_SIGN, a);
        }
    }

    private static void ofNanAlwaysNan() {
        Check.sentence("Promise 5: of NAN always NAN");
        for (int what = ROOT; what <= WITHOUT_SIGN; what++) {
            for (long nan : Check.nans()) {
                Check.turnsBits(nan, what, Check.NAN);
            }
        }
    }

    private static void thereIsNoSuchWhat() {
        Check.sentence("Promise 5: IllegalArgumentException: there is no such what");
        for (long a : new long[] {0, Check.bits(1), Check.bits(INFINITE), Check.NAN}) {
            for (int what : new int[] {-1, 7, 8, 256, Integer.MAX_VALUE, Integer.MIN_VALUE}) {
                Check.throwsJust("what " + what, IllegalArgumentException.class, () -> Check.subject(1).turn(a, what));
            }
        }
        Check.turns(9, 0, 3);
        Check.turns(-9, 6, 9);
    }
}
