/** Promise 2: put. */
final class Promise02PutTest {
    public static void main(String[] args) {
        countsAndOrders();
        looksAtTheLowestBitsAlone();
        refusesWrongCounts();
        refusesMoreThan600();
        Check.end();
    }

    private static void countsAndOrders() {
        Subject x = new Subject();
        Check.same("put of four", x.put(0x0031_0032_0033_0034L, 4), 4);
        Check.same("put of one more", x.put('5', 1), 5);
        Check.same("put of two more", x.put(0x0036_0037L, 2), 7);
        Check.same("put of three more", x.put(0x0038_0039_0030L, 3), 10);
        Check.same("read", x.read(), Check.bits(1234567890));
        Check.same("put behind a read", x.put('5', 1), 1);
        Check.same("read again", x.read(), Check.bits(5));
    }

    private static void looksAtTheLowestBitsAlone() {
        Subject x = new Subject();
        x.put(0xFFFF_FFFF_FFFF_0037L, 1);
        x.put(0xFFFF_1234_0038_0039L, 2);
        x.put(0x8000_0031_0032_0033L, 3);
        Check.same("read", x.read(), Check.bits(789123));
        x.put(0xFFFFL, 1);
        Check.same("read of unit 65535", x.read(), 0x7FF8000000000000L);
        x.put(0xFEFF_0031_FEFF_FEFFL, 4);
        Check.same("read of 1 among units 65279", x.read(), Check.bits(1));
    }

    private static void refusesWrongCounts() {
        Subject x = new Subject();
        x.put('4', 1);
        for (int n : new int[] {0, 5, -1, 6, 64, Integer.MAX_VALUE, Integer.MIN_VALUE}) {
            Check.throwsJust("put of " + n, IllegalArgumentException.class, () -> x.put('1', n));
        }
        Check.same("put behind what was refused", x.put('2', 1), 2);
        Check.same("read behind what was refused", x.read(), Check.bits(42));
    }

    private static void refusesMoreThan600() {
        Subject x = new Subject();
        for (int i = 0; i < 149; i++) {
            x.put(0x0020_0020_0020_0020L, 4);
        }
        Check.same("put up to 598", x.put(0x0020_0020L, 2), 598);
        Check.throwsJust("put of 3 to 598", IllegalStateException.class, () -> x.put(0, 3));
        Check.throwsJust("put of 4 to 598", IllegalStateException.class, () -> x.put(0, 4));
        Check.same("put up to 600", x.put(0x0038_0039L, 2), 600);
        Check.throwsJust("put of 1 to 600", IllegalStateException.class, () -> x.put(0, 1));
        Check.throwsJust("put of 0 to 600", IllegalArgumentException.class, () -> x.put(0, 0));
        Check.throwsJust("put of 5 to 600", IllegalArgumentException.class, () -> x.put(0, 5));
        Check.same("read of 600 units", x.read(), Check.bits(89));
        Check.same("put behind the read", x.put('1', 1), 1);
    }
}
