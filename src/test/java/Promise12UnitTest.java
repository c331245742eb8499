/** Promise 12: unit. */
final class Promise12UnitTest {
    public static void main(String[] args) {
        Subject x = new Subject();
        Check.same("write(-12.5)", x.write(Check.bits(-12.5)), 5);
        Check.same("unit(0)", x.unit(0), '-');
        Check.same("unit(3)", x.unit(3), '.');
        Check.same("unit(4)", x.unit(4), '5');
        for (int k : new int[] {5, 6, -1, 1100, 65536, Integer.MAX_VALUE, Integer.MIN_VALUE}) {
            Check.throwsJust("unit(" + k + ")", IndexOutOfBoundsException.class, () -> x.unit(k));
        }
        isWhatWasWrittenLast(x);
        staysThroughOtherCalls(x);
        Check.end();
    }

    /** What an object has written, and nothing behind it. */
    private static void has(Subject x, String due) {
        for (int k = 0; k < due.length(); k++) {
            Check.same("unit(" + k + ") of " + due, x.unit(k), due.charAt(k));
        }
        Check.throwsJust("unit behind " + due, IndexOutOfBoundsException.class, () -> x.unit(due.length()));
    }

    private static void isWhatWasWrittenLast(Subject x) {
        x.radix(Check.bits(Double.MAX_VALUE), 2);
        Check.same("the last of 1024", x.unit(1023), '0');
        Check.throwsJust("unit behind 1024", IndexOutOfBoundsException.class, () -> x.unit(1024));
        x.write(Check.bits(7));
        has(x, "7");
        x.form(Check.bits(7), 0, 2);
        has(x, "7.00");
        x.write(Check.NAN);
        has(x, "NaN");
    }

    private static void staysThroughOtherCalls(Subject x) {
        x.write(Check.bits(1e21));
        Check.putText(x, "12345.678e-300");
        x.read();
        x.reckon(Check.bits(1), Check.bits(3), 3);
        x.turn(Check.bits(2), 0);
        x.compare(1, 2);
        x.whole(Check.bits(5), 0);
        x.of(77);
        has(x, "1e+21");
        Check.putText(x, "98");
        x.write(Check.bits(1));
        Check.same("a text stays while numbers are written", x.read(), Check.bits(98));
    }
}
