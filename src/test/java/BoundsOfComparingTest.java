/** The bounds of promise 6. */
final class BoundsOfComparingTest {
    public static void main(String[] args) {
        lessAndGreater();
        equal();
        zerosAreEqual();
        oneIsNan();
        Check.end();
    }

    private static void compares(double a, double b, int due) {
        Check.same("compare(" + a + ", " + b + ")", Check.subject(1).compare(Check.bits(a), Check.bits(b)), due);
    }

    private static void lessAndGreater() {
        Check.sentence("-1 less .. 1 greater");
        double[] rising = {
            -Check.INFINITE, -Double.MAX_VALUE, -2, Math.nextDown(-1.0), -1, Math.nextUp(-1.0), -Double.MIN_NORMAL,
            -Math.nextDown(Double.MIN_NORMAL), -2 * Double.MIN_VALUE, -Double.MIN_VALUE, 0.0, Double.MIN_VALUE,
            2 * Double.MIN_VALUE, Math.nextDown(Double.MIN_NORMAL), Double.MIN_NORMAL, Math.nextDown(1.0), 1,
            Math.nextUp(1.0), 2, Math.nextDown(Double.MAX_VALUE), Double.MAX_VALUE, Check.INFINITE
        };
        for (int i = 0; i < rising.length; i++) {
            for (int k = 0; k < rising.length; k++) {
                compares(rising[i], rising[k], Integer.compare(i, k));
            }
        }
        compares(-0.0, Double.MIN_VALUE, -1);
        compares(-0.0, -Double.MIN_VALUE, 1);
        compares(Double.MIN_VALUE, -0.0, 1);
        compares(-Double.MIN_VALUE, -0.0, -1);
    }

    private static void equal() {
        Check.sentence("0 equal");
        for (double a : new double[] {Double.MIN_VALUE, 1, Double.MAX_VALUE, Check.INFINITE}) {
            compares(a, a, 0);
            compares(-a, -a, 0);
            compares(a, -a, 1);
            compares(-a, a, -1);
        }
    }

    private static void zerosAreEqual() {
        Check.sentence("0 equal (zeros are)");
        compares(0.0, 0.0, 0);
        compares(0.0, -0.0, 0);
        compares(-0.0, 0.0, 0);
        compares(-0.0, -0.0, 0);
    }

    private static void oneIsNan() {
        Check.sentence("2 when one is NAN");
        for (long nan : Check.nans()) {
            for (long other : Check.edges()) {
                Check.same("compare of NAN with another", Check.subject(1).compare(nan, other), 2);
                Check.same("compare of another with NAN", Check.subject(1).compare(other, nan), 2);
            }
        }
    }
}
