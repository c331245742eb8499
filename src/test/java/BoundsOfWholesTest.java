/** The bounds of the terms ToInt32, ToUint32 and ToUint16, and of promises 7 and 8. */
final class BoundsOfWholesTest {
    private static final double TO_31 = 0x1p31;
    private static final double TO_32 = 0x1p32;

    public static void main(String[] args) {
        ofNanAndInfiniteOnes();
        cutOff();
        toInt32WrapsRound();
        toUint32WrapsRound();
        toUint16WrapsRound();
        farNumbers();
        numbersWithoutLowBits();
        thereIsNoSuchWhat();
        wholesThatAreNumbers();
        wholesThatAreRounded();
        Check.end();
    }

    /** ToInt32, ToUint32 and ToUint16 of a number. */
    private static void wholes(double a, long int32, long uint32, long uint16) {
        Check.same("whole(" + a + ", 0)", Check.subject(1).whole(Check.bits(a), 0), int32);
        Check.same("whole(" + a + ", 1)", Check.subject(1).whole(Check.bits(a), 1), uint32);
        Check.same("whole(" + a + ", 2)", Check.subject(1).whole(Check.bits(a), 2), uint16);
    }

    private static void ofNanAndInfiniteOnes() {
        Check.sentence("of NAN and infinite ones 0");
        wholes(Check.INFINITE, 0, 0, 0);
        wholes(-Check.INFINITE, 0, 0, 0);
        for (long nan : Check.nans()) {
            for (int what = 0; what <= 2; what++) {
                Check.same("whole of a NAN", Check.subject(1).whole(nan, what), 0);
            }
        }
    }

    private static void cutOff() {
        Check.sentence("otherwise a cut off");
        wholes(0.0, 0, 0, 0);
        wholes(-0.0, 0, 0, 0);
        wholes(Double.MIN_VALUE, 0, 0, 0);
        wholes(-Double.MIN_VALUE, 0, 0, 0);
        wholes(Math.nextDown(1.0), 0, 0, 0);
        wholes(Math.nextUp(-1.0), 0, 0, 0);
        wholes(1, 1, 1, 1);
        wholes(-1, -1, 4294967295L, 65535);
        wholes(Math.nextDown(2.0), 1, 1, 1);
        wholes(-Math.nextDown(2.0), -1, 4294967295L, 65535);
    }

    private static void toInt32WrapsRound() {
        Check.sentence("modulo 2^32 .. as -2^31 .. 2^31 - 1 for the first");
        wholes(TO_31 - 1, 2147483647, 2147483647, 65535);
        wholes(Math.nextDown(TO_31), 2147483647, 2147483647, 65535);
        wholes(TO_31, -2147483648, 2147483648L, 0);
        wholes(TO_31 + 1, -2147483647, 2147483649L, 1);
        wholes(-TO_31, -2147483648, 2147483648L, 0);
        wholes(-TO_31 - 0.5, -2147483648, 2147483648L, 0);
        wholes(-TO_31 - 1, 2147483647, 2147483647, 65535);
        wholes(-TO_31 + 1, -2147483647, 2147483649L, 1);
    }

    private static void toUint32WrapsRound() {
        Check.sentence("modulo 2^32");
        wholes(TO_32 - 1, -1, 4294967295L, 65535);
        wholes(Math.nextDown(TO_32), -1, 4294967295L, 65535);
        wholes(TO_32, 0, 0, 0);
        wholes(TO_32 + 1, 1, 1, 1);
        wholes(-TO_32 + 1, 1, 1, 1);
        wholes(-TO_32, 0, 0, 0);
        wholes(-TO_32 - 0.5, 0, 0, 0);
        wholes(-TO_32 - 1, -1, 4294967295L, 65535);
        wholes(3 * TO_32 - 1, -1, 4294967295L, 65535);
        wholes(3 * TO_32 + TO_31, -2147483648, 2147483648L, 0);
    }

    private static void toUint16WrapsRound() {
        Check.sentence("modulo .. (2^16)");
        wholes(65535, 65535, 65535, 65535);
        wholes(65535.5, 65535, 65535, 65535);
        wholes(65536, 65536, 65536, 0);
        wholes(65537, 65537, 65537, 1);
        wholes(-65535, -65535, 4294901761L, 1);
        wholes(-65536, -65536, 4294901760L, 0);
        wholes(-65537, -65537, 4294901759L, 65535);
        wholes(131071, 131071, 131071, 65535);
        wholes(131072, 131072, 131072, 0);
    }

    private static void farNumbers() {
        Check.sentence("a cut off, modulo 2^32, of numbers beyond 2^32");
        wholes(0x1p52 - 0.5, -1, 4294967295L, 65535);
        wholes(0x1p52 + 1, 1, 1, 1);
        wholes(-0x1p52 - 1, -1, 4294967295L, 65535);
        wholes(0x1.fffffffffffffp52, -1, 4294967295L, 65535);
        wholes(0x1p53 + 2, 2, 2, 2);
        wholes(-0x1p53 - 2, -2, 4294967294L, 65534);
        wholes(0x1.0000000000001p63, 2048, 2048, 2048);
        wholes(0x1.fffffffffffffp63, -2048, 4294965248L, 63488);
        wholes(-0x1p63, 0, 0, 0);
        wholes(0x1.0000000000001p67, 32768, 32768, 32768);
        wholes(0x1.0000000000001p68, 65536, 65536, 0);
    }

    private static void numbersWithoutLowBits() {
        Check.sentence("a cut off, modulo 2^32, of numbers whose last place is 2^31 or more");
        wholes(0x1.0000000000001p83, -2147483648, 2147483648L, 0);
        wholes(-0x1.0000000000001p83, -2147483648, 2147483648L, 0);
        wholes(0x1p83, 0, 0, 0);
        wholes(0x1.0000000000001p84, 0, 0, 0);
        wholes(-0x1.fffffffffffffp84, 0, 0, 0);
        wholes(0x1.fffffffffffffp115, 0, 0, 0);
        wholes(0x1.0000000000001p116, 0, 0, 0);
        wholes(Double.MAX_VALUE, 0, 0, 0);
        wholes(-Double.MAX_VALUE, 0, 0, 0);
    }

    private static void thereIsNoSuchWhat() {
        Check.sentence("Promise 7: IllegalArgumentException: there is no such what");
        for (long a : new long[] {0, Check.bits(1), Check.bits(Check.INFINITE), Check.NAN}) {
            for (int what : new int[] {-1, 3, 4, 256, Integer.MAX_VALUE, Integer.MIN_VALUE}) {
                Check.throwsJust("what " + what, IllegalArgumentException.class, () -> Check.subject(1).whole(a, what));
            }
        }
    }

    private static void of(long whole, double due) {
        Check.same("of(" + whole + ")", Check.subject(1).of(whole), Check.bits(due));
    }

    private static void wholesThatAreNumbers() {
        Check.sentence("Promise 8: The number of a whole number");
        of(0, 0.0);
        of(1, 1);
        of(-1, -1);
        of(Integer.MAX_VALUE, 2147483647);
        of(Integer.MIN_VALUE, -TO_31);
        of((1L << 53) - 1, 9007199254740991.0);
        of(1L << 53, 0x1p53);
        of(-(1L << 53), -0x1p53);
        of(1L << 62, 0x1p62);
        of(Long.MIN_VALUE, -0x1p63);
        of(Long.MIN_VALUE + 1024, -0x1.fffffffffffffp62);
    }

    private static void wholesThatAreRounded() {
        Check.sentence("Promise 8: .. rounded");
        of((1L << 53) + 1, 0x1p53);
        of(-(1L << 53) - 1, -0x1p53);
        of((1L << 53) + 3, 0x1p53 + 4);
        of(-(1L << 53) - 3, -0x1p53 - 4);
        of(Long.MAX_VALUE, 0x1p63);
        of(Long.MAX_VALUE - 511, 0x1p63);
        of(Long.MAX_VALUE - 512, 0x1.fffffffffffffp62);
        of(Long.MIN_VALUE + 1, -0x1p63);
        of(Long.MIN_VALUE + 512, -0x1p63);
        of(Long.MIN_VALUE + 513, -0x1.fffffffffffffp62);
    }
}
