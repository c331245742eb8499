/** Reads, reckons and writes some numbers. */
public final class Example {
    public static void main(String[] args) {
        DoubleBits x = new DoubleBits();

        // A text is put in parts of one to four units of 16 bits, the highest one first, and read once.
        x.put(0x0030_002E_0031L, 3);
        long tenth = x.read();
        System.out.println("0.1 has the bits " + Long.toHexString(tenth));

        // Numbers are reckoned by their bits; of(..) makes one of a whole number.
        long two = x.of(2);
        long sum = x.reckon(tenth, two, 0);
        System.out.println("0.1 compared with 0.1 + 2: " + x.compare(tenth, sum));
        System.out.println("-1 as ToUint32: " + x.whole(x.of(-1), 1));

        // A number is written, and then looked at unit by unit until the next one is written.
        System.out.println("0.1 + 2: " + units(x, x.write(sum)));
        System.out.println("the root of 2: " + units(x, x.write(x.turn(two, 0))));
        System.out.println("255 of radix 16: " + units(x, x.radix(x.of(255), 16)));
        System.out.println("0.1 + 2, fixed, 2 digits: " + units(x, x.form(sum, 0, 2)));
        System.out.println("0.1 + 2, exponential, as few digits as do: " + units(x, x.form(sum, 1, -1)));
        System.out.println("0.1 + 2, precise, 5 digits: " + units(x, x.form(sum, 2, 5)));

        // A call that is refused changes nothing.
        try {
            x.radix(sum, 10);
        } catch (IllegalArgumentException e) {
            System.out.println("radix 10 is refused; unit 0 is still " + (char) x.unit(0));
        }
    }

    private static String units(DoubleBits x, int length) {
        StringBuilder text = new StringBuilder();
        for (int k = 0; k < length; k++) {
            text.append((char) x.unit(k));
        }
        return text.toString();
    }
}
