/** The bounds of the term OF A RADIX, and of promise 10. */
final class BoundsOfRadixTest {
    public static void main(String[] args) {
        radixBounds();
        itIsNotARadix();
        digitsOfARadix();
        nanInfiniteAndZeros();
        theOpposite();
        theWholePart();
        zeroBelow1();
        noPointWithoutARest();
        asManyAsThereAre();
        atMost52();
        theOthersCutOff();
        zerosAtTheEnd();
        thePointIfNoneIsLeft();
        howManyUnits();
        Check.end();
    }

    private static void radixBounds() {
        Check.sentence("OF A RADIX r (2 .. 36, not 10 ..)");
        Check.writesInRadix(35, 2, "100011");
        Check.writesInRadix(35, 3, "1022");
        Check.writesInRadix(35, 9, "38");
        Check.writesInRadix(35, 11, "32");
        Check.writesInRadix(35, 35, "10");
        Check.writesInRadix(35, 36, "z");
    }

    private static void itIsNotARadix() {
        Check.sentence("IllegalArgumentException: it is not 2 .. 36, or 10");
        for (int radix : new int[] {1, 37, 10, 0, -1, -2, -10, 38, 258, 65538, Integer.MAX_VALUE, Integer.MIN_VALUE}) {
            for (long a : new long[] {0, Check.bits(1.5), Check.bits(Check.INFINITE), Check.NAN}) {
                Check.throwsJust("radix " + radix, IllegalArgumentException.class,
                        () -> Check.subject(1).radix(a, radix));
            }
        }
    }

    private static void digitsOfARadix() {
        Check.sentence("digits 0 .. 9, a .. z");
        String digits = "0123456789abcdefghijklmnopqrstuvwxyz";
        for (int radix = 2; radix <= 36; radix++) {
            for (int digit = 1; digit < radix && radix != 10; digit++) {
                Check.writesInRadix(digit, radix, digits.substring(digit, digit + 1));
                Check.writesInRadix(radix + digit, radix, "1" + digits.charAt(digit));
            }
        }
        Check.writesInRadix(0.25, 36, "0.9");
        Check.writesInRadix(0.5, 20, "0.a");
        Check.writesInRadix(31.0 / 32, 32, "0.v");
    }

    private static void nanInfiniteAndZeros() {
        Check.sentence("NaN, Infinity, .. and 0 as above");
        for (int radix : new int[] {2, 3, 16, 36}) {
            Check.writesBitsInRadix(Check.NAN, radix, "NaN");
            Check.writesBitsInRadix(0xFFF0000000000001L, radix, "NaN");
            Check.writesInRadix(Check.INFINITE, radix, "Infinity");
            Check.writesInRadix(-Check.INFINITE, radix, "-Infinity");
            Check.writesInRadix(0.0, radix, "0");
            Check.writesInRadix(-0.0, radix, "0");
        }
    }

    private static void theOpposite() {
        Check.sentence("- .. as above");
        Check.writesInRadix(-255, 16, "-ff");
        Check.writesInRadix(-0.5, 2, "-0.1");
        Check.writesInRadix(-255.5, 16, "-ff.8");
        Check.writesInRadix(-0x1p-52, 2, "-0." + "0".repeat(51) + "1");
        Check.writesInRadix(-Double.MAX_VALUE, 2, "-" + "1".repeat(53) + "0".repeat(971));
    }

    private static void theWholePart() {
        Check.sentence("the whole part, exactly");
        Check.writesInRadix(1, 2, "1");
        Check.writesInRadix(0x1.fffffffffffffp52, 2, "1".repeat(53));
        Check.writesInRadix(0x1p53, 2, "1" + "0".repeat(53));
        Check.writesInRadix(0x1p53 + 2, 16, "20000000000002");
        Check.writesInRadix(0x1p62, 16, "4000000000000000");
        Check.writesInRadix(0x1p63, 8, "1" + "0".repeat(21));
        Check.writesInRadix(0x1p63 + 2048, 16, "8000000000000800");
        Check.writesInRadix(1e21, 7, new java.math.BigInteger("1000000000000000000000").toString(7));
        Check.writesInRadix(0x1p1023, 2, "1" + "0".repeat(1023));
        Check.writesInRadix(Double.MAX_VALUE, 16, "fffffffffffff8" + "0".repeat(242));
        java.math.BigInteger greatest = new java.math.BigDecimal(Double.MAX_VALUE).toBigInteger();
        for (int radix : new int[] {3, 9, 11, 35, 36}) {
            Check.writesInRadix(Double.MAX_VALUE, radix, greatest.toString(radix));
        }
    }

    private static void zeroBelow1() {
        Check.sentence("(0 below 1)");
        Check.writesInRadix(0.5, 2, "0.1");
        Check.writesInRadix(Math.nextDown(1.0), 16, "0.fffffffffffff8");
        Check.writesInRadix(1, 16, "1");
        Check.writesInRadix(Math.nextUp(1.0), 16, "1.0000000000001");
    }

    private static void noPointWithoutARest() {
        Check.sentence("then, unless the rest is 0, a point");
        Check.writesInRadix(3, 2, "11");
        Check.writesInRadix(3.5, 2, "11.1");
        Check.writesInRadix(0x1p52 - 0.5, 2, "1".repeat(52) + ".1");
        Check.writesInRadix(0x1p52, 2, "1" + "0".repeat(52));
    }

    private static void asManyAsThereAre() {
        Check.sentence("digits of the rest, exactly, as many as there are");
        Check.writesInRadix(0.1, 16, "0.1999999999999a");
        Check.writesInRadix(0.375, 2, "0.011");
        Check.writesInRadix(0.375, 4, "0.12");
        Check.writesInRadix(0x1p-52, 16, "0.0000000000001");
        Check.writesInRadix(0x1p-208, 16, "0." + "0".repeat(51) + "1");
        Check.writesInRadix(1 + 0x1p-52, 2, "1." + "0".repeat(51) + "1");
    }

    private static void atMost52() {
        Check.sentence("but at most 52");
        Check.writesInRadix(0x1p-52, 2, "0." + "0".repeat(51) + "1");
        Check.writesInRadix(0x1.fffffffffffffp-1, 2, "0." + "1".repeat(52));
        Check.writesInRadix(Math.nextDown(0.5), 2, "0.0" + "1".repeat(51));
        Check.writesInRadix(0x1.fffffffffffffp0, 2, "1." + "1".repeat(52));
        Check.writesInRadix(0.5, 3, "0." + "1".repeat(52));
        Check.writesInRadix(0.25, 5, "0." + "1".repeat(52));
        Check.writesInRadix(0.5, 35, "0." + "h".repeat(52));
        Check.writesInRadix(1.5, 9, "1." + "4".repeat(52));
    }

    private static void theOthersCutOff() {
        Check.sentence("(the others cut off ..");
        // rounded, each of these would end otherwise
        Check.writesInRadix(0x1.8p-52, 2, "0." + "0".repeat(51) + "1");
        Check.writesInRadix(0x1p-51 + 0x1.8p-52, 2, "0." + "0".repeat(50) + "11");
        Check.writesInRadix(0.75, 3, "0." + "20".repeat(25) + "2");
        Check.writesInRadix(0.375, 3, "0." + "10".repeat(25) + "1");
        Check.writesInRadix(0.875, 3, "0." + "21".repeat(26));
        Check.writesInRadix(0x1.fffffffffffffp-2, 2, "0.0" + "1".repeat(51));
    }

    private static void zerosAtTheEnd() {
        Check.sentence(".. and zeros at the end of what is left then");
        Check.writesInRadix(0.5 + 0x1p-53, 2, "0.1");
        Check.writesInRadix(0.5 + 0x1p-52, 2, "0.1" + "0".repeat(50) + "1");
        Check.writesInRadix(-0.5 - 0x1p-53, 2, "-0.1");
        Check.writesInRadix(0.75, 3, "0." + "20".repeat(25) + "2");
        Check.writesInRadix(0x1p-51 + 0x1p-53, 2, "0." + "0".repeat(50) + "1");
    }

    private static void thePointIfNoneIsLeft() {
        Check.sentence(".. and the point if none is left)");
        Check.writesInRadix(0x1p-53, 2, "0");
        Check.writesInRadix(0x1.fffffffffffffp-53, 2, "0");
        Check.writesInRadix(0x1p-209, 16, "0");
        Check.writesInRadix(Double.MIN_VALUE, 2, "0");
        Check.writesInRadix(Double.MIN_VALUE, 36, "0");
        Check.writesInRadix(Double.MIN_NORMAL, 36, "0");
        Check.writesInRadix(-0x1p-53, 2, "-0");
        Check.writesInRadix(-Double.MIN_VALUE, 36, "-0");
    }

    private static void howManyUnits() {
        Check.sentence("Promise 10: Writes it of a radix, and answers how many units");
        Subject x = new Subject();
        Check.same("the longest", x.radix(Check.bits(-Double.MAX_VALUE), 2), 1025);
        Check.same("its first unit", x.unit(0), '-');
        Check.same("its last digit 1", x.unit(53), '1');
        Check.same("its first digit 0", x.unit(54), '0');
        Check.same("its last unit", x.unit(1024), '0');
        Check.throwsJust("the unit behind it", IndexOutOfBoundsException.class, () -> x.unit(1025));
        Check.same("52 digits of a rest", x.radix(Check.bits(-0x1p52 + 0.5), 3), 87);
        Check.same("the shortest", x.radix(0, 2), 1);
    }
}
