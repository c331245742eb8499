/** The bounds of promise 12. */
final class BoundsOfUnitsTest {
    public static void main(String[] args) {
        ofANewObjectThereIsNone();
        theFirstAndTheLast();
        theLongestText();
        ofAShorterTextBehindALongerOne();
        ofWhatWasWrittenLast();
        byACallThatDidNotThrow();
        othersDoNotWrite();
        unitsAreNotUsedUp();
        Check.end();
    }

    private static void none(Subject x, int k) {
        Check.throwsJust("unit(" + k + ")", IndexOutOfBoundsException.class, () -> x.unit(k));
    }

    /** The units are those of a text, and there are no others. */
    private static void has(Subject x, String due) {
        for (int k = 0; k < due.length(); k++) {
            Check.same("unit(" + k + ") of " + due, x.unit(k), due.charAt(k));
        }
        none(x, -1);
        none(x, due.length());
    }

    private static void ofANewObjectThereIsNone() {
        Check.sentence("IndexOutOfBoundsException: there is none, nothing being written");
        Subject x = new Subject();
        for (int k : new int[] {0, 1, -1, 1024, Integer.MAX_VALUE, Integer.MIN_VALUE}) {
            none(x, k);
        }
        x.put('1', 1);
        none(x, 0);
        x.read();
        x.of(5);
        none(x, 0);
    }

    private static void theFirstAndTheLast() {
        Check.sentence("Unit k .. IndexOutOfBoundsException: there is none");
        Subject x = new Subject();
        x.write(Check.bits(-12.5));
        has(x, "-12.5");
        for (int k : new int[] {5, 6, 1100, 65536, 1 << 16 | 2, Integer.MAX_VALUE, -1, -5, Integer.MIN_VALUE,
            Integer.MIN_VALUE + 2}) {
            none(x, k);
        }
        x.write(0);
        has(x, "0");
        none(x, 1);
    }

    private static void theLongestText() {
        Check.sentence("Unit k, of the longest text");
        Subject x = new Subject();
        Check.same("its length", x.radix(Check.bits(-Double.MAX_VALUE), 2), 1025);
        Check.same("unit(0)", x.unit(0), '-');
        Check.same("unit(1)", x.unit(1), '1');
        Check.same("unit(53)", x.unit(53), '1');
        Check.same("unit(54)", x.unit(54), '0');
        Check.same("unit(1024)", x.unit(1024), '0');
        none(x, 1025);
    }

    private static void ofAShorterTextBehindALongerOne() {
        Check.sentence("Unit k of what was written last, and not of what was written before it");
        Subject x = new Subject();
        x.radix(Check.bits(Double.MAX_VALUE), 2);
        x.write(Check.bits(7));
        has(x, "7");
        x.form(Check.bits(7), 1, 20);
        x.form(Check.bits(7), 2, 1);
        has(x, "7");
        x.write(Check.NAN);
        has(x, "NaN");
        x.write(Check.bits(Check.INFINITE));
        has(x, "Infinity");
        x.radix(0, 36);
        has(x, "0");
    }

    private static void ofWhatWasWrittenLast() {
        Check.sentence("Unit k of what was written last");
        Subject x = new Subject();
        x.write(Check.bits(0.1));
        has(x, "0.1");
        x.radix(Check.bits(255), 16);
        has(x, "ff");
        x.form(Check.bits(1.5), 0, 2);
        has(x, "1.50");
        x.form(Check.bits(1.5), 1, 2);
        has(x, "1.50e+0");
        x.form(Check.bits(1.5), 2, 2);
        has(x, "1.5");
    }

    private static void byACallThatDidNotThrow() {
        Check.sentence("(by a call that did not throw)");
        Subject x = new Subject();
        Check.throwsJust("radix 10", IllegalArgumentException.class, () -> x.radix(Check.bits(5), 10));
        Check.throwsJust("form 3", IllegalArgumentException.class, () -> x.form(Check.bits(5), 3, 1));
        none(x, 0);
        x.write(Check.bits(42));
        for (int radix : new int[] {1, 10, 37}) {
            Check.throwsJust("radix " + radix, IllegalArgumentException.class, () -> x.radix(Check.bits(5), radix));
            has(x, "42");
        }
        for (int[] wrong : new int[][] {{-1, 1}, {3, 1}, {0, -1}, {0, 21}, {1, -2}, {1, 21}, {2, 0}, {2, 22}}) {
            Check.throwsJust("form", IllegalArgumentException.class,
                    () -> x.form(Check.bits(5), wrong[0], wrong[1]));
            has(x, "42");
        }
    }

    private static void othersDoNotWrite() {
        Check.sentence("Unit k of what was written last, by write, radix or form alone");
        Subject x = new Subject();
        x.write(Check.bits(1e21));
        Check.putText(x, "12345.678e-300");
        has(x, "1e+21");
        x.read();
        has(x, "1e+21");
        for (int what = 0; what <= 4; what++) {
            x.reckon(Check.bits(Double.MAX_VALUE), Check.bits(3), what);
        }
        for (int what = 0; what <= 6; what++) {
            x.turn(Check.bits(2.5), what);
        }
        for (int what = 0; what <= 2; what++) {
            x.whole(Check.bits(-5.5), what);
        }
        x.compare(1, 2);
        x.of(77);
        has(x, "1e+21");
    }

    private static void unitsAreNotUsedUp() {
        Check.sentence("Unit k of what was written last, asked again and in any order");
        Subject x = new Subject();
        x.write(Check.bits(12.5));
        for (int i = 0; i < 3; i++) {
            Check.same("unit(3)", x.unit(3), '5');
            none(x, 4);
            Check.same("unit(0)", x.unit(0), '1');
        }
    }
}
