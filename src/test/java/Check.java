import java.util.Random;

/** What the tests share: counting wrong answers, exceptions, texts, and numbers to try. */
final class Check {
    static final long NAN = 0x7FF8000000000000L;
    static final long SIGN = 0x8000000000000000L;
    static final double INFINITE = Double.POSITIVE_INFINITY;
    /** What an exception's name is due as when none is thrown. */
    private static final String NOTHING = "nothing";
    private static final int UNITS_AT_ONCE = 500;

    interface Call {
        void run();
    }

    /** A call that writes, and answers how many units. */
    interface Writing {
        int on(Subject x);
    }

    private static int wrong = 0;
    private static int looked = 0;
    private static String sentence = "";
    private static Subject subject = new Subject();

    private Check() {
    }

    /** The words of the document that the answers from here on are tried against. */
    static void sentence(String words) {
        sentence = words;
    }

    static void same(String what, long got, long due) {
        looked++;
        if (got != due) {
            tell(what + " answered " + got + " (" + Long.toHexString(got) + "), due is " + due
                    + " (" + Long.toHexString(due) + ")");
        }
    }

    static void same(String what, String got, String due) {
        looked++;
        if (!got.equals(due)) {
            tell(what + " answered " + got + ", due is " + due);
        }
    }

    static void isTrue(String what, boolean holds) {
        looked++;
        if (!holds) {
            tell(what + " does not hold");
        }
    }

    static void throwsJust(String what, Class<? extends RuntimeException> due, Call call) {
        same(what + " throws", thrownBy(call), due.getSimpleName());
    }

    static String thrownBy(Call call) {
        try {
            call.run();
        } catch (RuntimeException e) {
            return e.getClass().getSimpleName();
        }
        return NOTHING;
    }

    private static void tell(String line) {
        wrong++;
        if (wrong <= 50) {
            System.out.println(sentence.isEmpty() ? line : "[" + sentence + "] " + line);
        }
    }

    static void end() {
        if (wrong > 0) {
            System.out.println(wrong + " of " + looked + " answers are wrong");
            System.exit(1);
        }
    }

    static long bits(double a) {
        return Double.doubleToRawLongBits(a);
    }

    /** An object that may still be used for so many calls; the same one as long as it may. */
    static Subject subject(int calls) {
        if (subject.callsLeft() < calls) {
            subject = new Subject();
        }
        return subject;
    }

    static void reckons(double a, double b, int what, double due) {
        reckonsBits(bits(a), bits(b), what, bits(due));
    }

    static void reckonsBits(long a, long b, int what, long due) {
        same("reckon(" + Long.toHexString(a) + ", " + Long.toHexString(b) + ", " + what + ")",
                subject(1).reckon(a, b, what), due);
    }

    static void turns(double a, int what, double due) {
        turnsBits(bits(a), what, bits(due));
    }

    static void turnsBits(long a, int what, long due) {
        same("turn(" + Long.toHexString(a) + ", " + what + ")", subject(1).turn(a, what), due);
    }

    /** Puts a text in parts of one to four units. */
    static void putText(Subject x, String text) {
        int size = 4;
        for (int i = 0; i < text.length(); i += size) {
            size = Math.min(1 + i % 4, text.length() - i);
            long units = 0;
            for (int k = 0; k < size; k++) {
                units = units << 16 | text.charAt(i + k);
            }
            x.put(units, size);
        }
    }

    static long readText(Subject x, String text) {
        putText(x, text);
        return x.read();
    }

    /** A text is read as a number, and is empty afterwards. */
    static void readsBits(String text, long due) {
        Subject x = subject(text.length() / 4 + 10);
        String told = text.length() < 60 ? text : text.substring(0, 60) + ".. (" + text.length() + " units)";
        same("read of '" + told + "'", readText(x, text), due);
        same("read afterwards", x.read(), 0);
    }

    static void reads(String text, double due) {
        readsBits(text, bits(due));
    }

    static void readsNan(String... texts) {
        for (String text : texts) {
            readsBits(text, NAN);
        }
    }

    /** All units that a call wrote; a long text is written on several objects and looked at in parts. */
    static String written(Writing writing) {
        Subject x = subject(80);
        int length = writing.on(x);
        StringBuilder text = new StringBuilder();
        if (length + 1 <= x.callsLeft()) {
            addUnits(text, x, 0, length);
        } else {
            for (int k = 0; k < length; k += UNITS_AT_ONCE) {
                x = new Subject();
                same("how many units, written again", writing.on(x), length);
                addUnits(text, x, k, Math.min(k + UNITS_AT_ONCE, length));
            }
        }
        Subject last = x;
        throwsJust("unit behind the last", IndexOutOfBoundsException.class, () -> last.unit(length));
        return text.toString();
    }

    private static void addUnits(StringBuilder text, Subject x, int from, int to) {
        for (int k = from; k < to; k++) {
            text.append((char) x.unit(k));
        }
    }

    static void writesBits(long a, String due) {
        same("write(" + Long.toHexString(a) + ")", written(x -> x.write(a)), due);
    }

    static void writes(double a, String due) {
        writesBits(bits(a), due);
    }

    static void writesBitsInRadix(long a, int radix, String due) {
        same("radix(" + Long.toHexString(a) + ", " + radix + ")", written(x -> x.radix(a, radix)), due);
    }

    static void writesInRadix(double a, int radix, String due) {
        writesBitsInRadix(bits(a), radix, due);
    }

    static void formsBits(long a, int form, int digits, String due) {
        same("form(" + Long.toHexString(a) + ", " + form + ", " + digits + ")",
                written(x -> x.form(a, form, digits)), due);
    }

    static void forms(double a, int form, int digits, String due) {
        formsBits(bits(a), form, digits, due);
    }

    /** Numbers at the edges of every kind, finite, infinite and NAN, with both signs. */
    static long[] edges() {
        double[] some = {
            0.0, Double.MIN_VALUE, 2 * Double.MIN_VALUE, 3 * Double.MIN_VALUE, 20 * Double.MIN_VALUE,
            Math.nextDown(Double.MIN_NORMAL), Double.MIN_NORMAL, Math.nextUp(Double.MIN_NORMAL), 1e-300,
            1e-21, 1e-7, 1.5e-7, 1e-6, 0.000123, 0.1, 0.25, Math.nextDown(0.5), 0.5, Math.nextUp(0.5), 0.75,
            Math.nextDown(1.0), 1.0, Math.nextUp(1.0), 1.5, 2.0, 2.5, 3.0, Math.PI, 9.5, 10.0, 99.5, 255.0,
            4095.9375, 65535.0, 65536.0, 2147483647.0, 2147483648.0, 4294967295.0, 4294967296.0,
            4503599627370495.5, 4503599627370496.5, 4503599627370497.0, 9007199254740991.0,
            9007199254740992.0, 9007199254740994.0, 0x1p62, 0x1p63, 0x1.8p83, 0x1.fffffffffffffp83,
            Math.nextDown(1e21), 1e21, Math.nextUp(1e21), 1e22, 1e23, 1e100, 0x1p1023,
            Math.nextDown(Double.MAX_VALUE), Double.MAX_VALUE, Double.POSITIVE_INFINITY
        };
        long[] nans = nans();
        long[] all = new long[2 * some.length + nans.length];
        for (int i = 0; i < some.length; i++) {
            all[2 * i] = bits(some[i]);
            all[2 * i + 1] = bits(-some[i]);
        }
        System.arraycopy(nans, 0, all, 2 * some.length, nans.length);
        return all;
    }

    /** The first and the last fraction that makes a NAN, those around the usual one, with both signs. */
    static long[] nans() {
        return new long[] {
            0x7FF0000000000001L, 0x7FF7FFFFFFFFFFFFL, NAN, 0x7FF8000000000001L, 0x7FFFFFFFFFFFFFFFL,
            0xFFF0000000000001L, 0xFFF7FFFFFFFFFFFFL, 0xFFF8000000000000L, 0xFFF8000000000001L, 0xFFFFFFFFFFFFFFFFL
        };
    }

    /** Any bits; or small wholes, few bits, near exponents or short decimals, which meet edges more often. */
    static long anyBits(Random random) {
        switch (random.nextInt(8)) {
            case 0:
                return bits(random.nextInt(2001) - 1000);
            case 1:
                return bits(Math.scalb((double) (random.nextInt(64) - 32), random.nextInt(120) - 60));
            case 2:
                return random.nextLong() & 0x800FFFFFFFFFFFFFL | (long) (1023 + random.nextInt(64) - 8) << 52;
            case 3:
                return random.nextLong() & (SIGN | (1L << random.nextInt(54)) - 1);
            case 4:
                return bits((random.nextInt(200001) - 100000) / Math.pow(10, random.nextInt(9)));
            default:
                return random.nextLong();
        }
    }
}
