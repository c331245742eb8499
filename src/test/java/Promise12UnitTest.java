/** Promise 12: unit. */
final class Promise12UnitTest {
    public static void main(String[] args) {
        DoubleBits x = new DoubleBits();
        Check.same("write(-12.5)", x.write(Check.bits(-12.5)), 5);
        Check.same("unit(0)", x.unit(0), '-');
        Check.same("unit(3)", x.unit(3), '.');
        Check.same("unit(4)", x.unit(4), '5');
        for (int k : new int[] {5, 6, -1, 1100, 65536, Integer.MAX_VALUE, Integer.MIN_VALUE}) {
            Check.throwsJust("unit(" + k + ")", IndexOutOfBoundsException.class, () -> x.unit(k));
        }
        isWhatWasWrittenLast(x);
        staysThroughOtherCalls(x);
        Check.end();
    }

    private static void isWhatWasWrittenLast(DoubleBits x) {
        x.radix(Check.bits(Double.MAX_VALUE), 2);
        Check.same("the last of 1024", x.unit(1023), '0');
        Check.throwsJust("unit behind 1024", IndexOutOfBoundsException.class, () -> x.unit(1024));
        x.write(Check.bits(7));
        Check.same("a shorter text", Check.written(x, 1), "7");
        x.form(Check.bits(7), 0, 2);
        Check.same("a fixed text", Check.written(x, 4), "7.00");
        x.write(0x7FF8000000000000L);
        Check.same("the text of NAN", Check.written(x, 3), "NaN");
    }

    private static void staysThroughOtherCalls(DoubleBits x) {
        x.write(Check.bits(1e21));
        Check.putText(x, "12345.678e-300");
        x.read();
        x.reckon(Check.bits(1), Check.bits(3), 3);
        x.turn(Check.bits(2), 0);
        x.compare(1, 2);
        x.whole(Check.bits(5), 0);
        x.of(77);
        Check.throwsJust("radix 10", IllegalArgumentException.class, () -> x.radix(Check.bits(5), 10));
        Check.throwsJust("form 3", IllegalArgumentException.class, () -> x.form(Check.bits(5), 3, 1));
        Check.throwsJust("form 0 of 21", IllegalArgumentException.class, () -> x.form(Check.bits(5), 0, 21));
        Check.same("what was written before", Check.written(x, 5), "1e+21");
        Check.putText(x, "98");
        x.write(Check.bits(1));
        Check.same("a text stays while numbers are written", x.read(), Check.bits(98));
    }
}
