/** The bounds of the term A TEXT and of promise 2. */
final class BoundsOfPuttingTest {
    public static void main(String[] args) {
        oneToFourUnits();
        nIsNotSo();
        theHighestFirst();
        othersAreNotLookedAt();
        units0To65535();
        atMost600();
        moreThan600();
        aFullTextIsReadAndPutAgain();
        howManyItHas();
        Check.end();
    }

    private static void oneToFourUnits() {
        Check.sentence("n units more of the text (1 .. 4 ..)");
        for (int n = 1; n <= 4; n++) {
            Subject x = new Subject();
            Check.same("put of " + n, x.put(0x0031_0031_0031_0031L, n), n);
            Check.same("read of " + n + " ones", x.read(), Check.bits(Integer.parseInt("1".repeat(n))));
        }
    }

    private static void nIsNotSo() {
        Check.sentence("IllegalArgumentException: n is not so");
        for (int n : new int[] {0, 5, -1, -4, 6, 16, 64, 257, 1 << 16 | 1, Integer.MAX_VALUE, Integer.MIN_VALUE}) {
            Subject x = new Subject();
            Check.throwsJust("put of " + n, IllegalArgumentException.class, () -> x.put(0x0031_0031_0031_0031L, n));
            Check.same("put of one behind it", x.put('2', 1), 1);
            Check.same("read behind it", x.read(), Check.bits(2));
        }
    }

    private static void theHighestFirst() {
        Check.sentence("the lowest n times 16 bits of units, the highest of these first");
        readsAs(0x0039_0038_0037_0036L, 4, 9876);
        readsAs(0x0039_0038_0037_0036L, 3, 876);
        readsAs(0x0039_0038_0037_0036L, 2, 76);
        readsAs(0x0039_0038_0037_0036L, 1, 6);
    }

    private static void readsAs(long units, int n, double due) {
        Subject x = new Subject();
        x.put(units, n);
        Check.same("put(" + Long.toHexString(units) + ", " + n + ") is read", x.read(), Check.bits(due));
    }

    private static void othersAreNotLookedAt() {
        Check.sentence("others are not looked at");
        readsAs(0xFFFF_FFFF_FFFF_0035L, 1, 5);
        readsAs(0x8000_0000_0001_0035L, 1, 5);
        readsAs(0xFFFF_FFFF_0034_0035L, 2, 45);
        readsAs(0x0031_0031_0034_0035L, 2, 45);
        readsAs(0xFFFF_0033_0034_0035L, 3, 345);
        readsAs(0x8000_0033_0034_0035L, 3, 345);
    }

    private static void units0To65535() {
        Check.sentence("UNITS, 0 .. 65535");
        for (int n = 1; n <= 4; n++) {
            for (long units : new long[] {0, -1, 0x8000_8000_8000_8000L, 0x0100_0100_0100_0100L}) {
                Subject x = new Subject();
                Check.same("put of " + n, x.put(units, n), n);
                Check.same("read of what is no number", x.read(), Check.NAN);
            }
        }
        // 65279 is a blank, with the highest bit set at every place of units
        readsAs(0xFEFF_0037_FEFF_FEFFL, 4, 7);
        readsAs(0xFEFF_FEFF_FEFF_0037L, 4, 7);
        readsAs(0xFEFF_FEFF_FEFF_FEFFL, 4, 0.0);
        // a digit's lowest eight bits do not make a digit
        for (long unit : new long[] {0x0131, 0x8031, 0xFF31, 0x3100}) {
            Subject x = new Subject();
            x.put(unit, 1);
            Check.same("read of unit " + unit, x.read(), Check.NAN);
        }
    }

    /** An object with so many blanks as its text. */
    private static Subject withBlanks(int howMany) {
        Subject x = new Subject();
        Check.putText(x, " ".repeat(howMany));
        return x;
    }

    private static void atMost600() {
        Check.sentence("A TEXT is at most 600 UNITS");
        for (int n = 1; n <= 4; n++) {
            Subject x = withBlanks(600 - n);
            Check.same("put of " + n + " up to 600", x.put(0x0031_0031_0031_0031L, n), 600);
            Check.same("read of 600 units", x.read(), Check.bits(Integer.parseInt("1".repeat(n))));
        }
    }

    private static void moreThan600() {
        Check.sentence("IllegalStateException: there would be more than 600");
        for (int had = 597; had <= 600; had++) {
            Subject x = withBlanks(had);
            int text = had;
            for (int n = 601 - had; n <= 4; n++) {
                int more = n;
                Check.throwsJust("put of " + n + " to " + had, IllegalStateException.class, () -> x.put(0, more));
            }
            for (; text < 600; text++) {
                Check.same("put of one behind it", x.put('1', 1), text + 1);
            }
            Check.throwsJust("put of one to 600", IllegalStateException.class, () -> x.put('2', 1));
            Check.same("read behind it", x.read(), had == 600 ? 0 : Check.bits(Integer.parseInt("1".repeat(600 - had))));
        }
    }

    private static void aFullTextIsReadAndPutAgain() {
        Check.sentence("Promise 3: The number of the text, which is empty afterwards");
        Subject x = withBlanks(600);
        Check.same("read of a full text", x.read(), 0);
        Check.same("read of the text that is empty then", x.read(), 0);
        Check.putText(x, "1".repeat(600));
        Check.throwsJust("put to the second full text", IllegalStateException.class, () -> x.put('1', 1));
        Check.same("read of the second full text", x.read(), Check.bits(Check.INFINITE));
        Check.same("put behind it", x.put('3', 1), 1);
        Check.same("read behind it", x.read(), Check.bits(3));
        x.put('z', 1);
        Check.same("read of what is no number", x.read(), Check.NAN);
        Check.same("read behind what is no number", x.read(), 0);
        Check.same("put behind what is no number", x.put('4', 1), 1);
        Check.same("read of that", x.read(), Check.bits(4));
    }

    private static void howManyItHas() {
        Check.sentence("how many it has");
        Subject x = new Subject();
        int has = 0;
        for (int i = 0; has < 600; i++) {
            int n = Math.min(1 + i % 4, 600 - has);
            has += n;
            Check.same("put", x.put(0x0020_0020_0020_0020L, n), has);
        }
    }
}
