import java.util.Random;

/** Promise 8: of. */
final class Promise08OfTest {
    public static void main(String[] args) {
        Subject x = new Subject();
        Check.same("of(0)", x.of(0), 0);
        Check.same("of(2^53 + 1)", x.of(9007199254740993L), Check.bits(9007199254740992.0));
        Check.same("of(-2^53 - 3)", x.of(-9007199254740995L), Check.bits(-9007199254740996.0));
        Check.same("of(the greatest)", x.of(Long.MAX_VALUE), Check.bits(0x1p63));
        Check.same("of(the least)", x.of(Long.MIN_VALUE), Check.bits(-0x1p63));
        for (int power = 0; power < 64; power++) {
            for (long near = -3; near <= 3; near++) {
                due((1L << power) + near);
                due((3L << power) + near);
                due(-(1L << power) + near);
            }
        }
        Random random = new Random(9);
        for (int i = 0; i < 300000; i++) {
            due(random.nextLong() >> random.nextInt(64));
            due(random.nextLong() & -1L << random.nextInt(64));
        }
        Check.end();
    }

    private static void due(long whole) {
        Check.same("of(" + whole + ")", Check.subject(1).of(whole), Check.bits((double) whole));
    }
}
