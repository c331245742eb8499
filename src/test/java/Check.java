import java.util.Random;

/** What the tests share: counting wrong answers, exceptions, texts, and numbers to try. */
final class Check {
    /** What an exception's name is due as when none is thrown. */
    static final String NOTHING = "nothing";

    interface Call {
        void run();
    }

    private static int wrong = 0;
    private static int looked = 0;

    private Check() {
    }

    static void same(String what, long got, long due) {
        looked++;
        if (got != due) {
            tell(what + " answered " + got + " (" + Long.toHexString(got) + "), due is " + due
                    + " (" + Long.toHexString(due) + ")");
        }
    }

    static void same(String what, String got, String due) {
        looked++;
        if (!got.equals(due)) {
            tell(what + " answered " + got + ", due is " + due);
        }
    }

    static void isTrue(String what, boolean holds) {
        looked++;
        if (!holds) {
            tell(what + " does not hold");
        }
    }

    static void throwsJust(String what, Class<? extends RuntimeException> due, Call call) {
        String got = NOTHING;
        try {
            call.run();
        } catch (RuntimeException e) {
            got = e.getClass().getSimpleName();
        }
        same(what + " throws", got, due.getSimpleName());
    }

    private static void tell(String line) {
        wrong++;
        if (wrong <= 50) {
            System.out.println(line);
        }
    }

    static void end() {
        if (wrong > 0) {
            System.out.println(wrong + " of " + looked + " answers are wrong");
            System.exit(1);
        }
    }

    static long bits(double a) {
        return Double.doubleToRawLongBits(a);
    }

    /** Puts a text in parts of one to four units. */
    static void putText(DoubleBits x, String text) {
        int size = 4;
        for (int i = 0; i < text.length(); i += size) {
            size = Math.min(1 + i % 4, text.length() - i);
            long units = 0;
            for (int k = 0; k < size; k++) {
                units = units << 16 | text.charAt(i + k);
            }
            x.put(units, size);
        }
    }

    static long readText(DoubleBits x, String text) {
        putText(x, text);
        return x.read();
    }

    /** What was written last, as long as a call said it is. */
    static String written(DoubleBits x, int length) {
        StringBuilder text = new StringBuilder();
        for (int k = 0; k < length; k++) {
            text.append((char) x.unit(k));
        }
        throwsJust("unit behind the last", IndexOutOfBoundsException.class, () -> x.unit(length));
        return text.toString();
    }

    /** Numbers at the edges of every kind, finite, infinite and NAN, with both signs. */
    static long[] edges() {
        double[] some = {
            0.0, Double.MIN_VALUE, 2 * Double.MIN_VALUE, 3 * Double.MIN_VALUE, 20 * Double.MIN_VALUE,
            Math.nextDown(Double.MIN_NORMAL), Double.MIN_NORMAL, Math.nextUp(Double.MIN_NORMAL), 1e-300,
            1e-21, 1e-7, 1.5e-7, 1e-6, 0.000123, 0.1, 0.25, Math.nextDown(0.5), 0.5, Math.nextUp(0.5), 0.75,
            Math.nextDown(1.0), 1.0, Math.nextUp(1.0), 1.5, 2.0, 2.5, 3.0, Math.PI, 9.5, 10.0, 99.5, 255.0,
            4095.9375, 65535.0, 65536.0, 2147483647.0, 2147483648.0, 4294967295.0, 4294967296.0,
            4503599627370495.5, 4503599627370496.5, 4503599627370497.0, 9007199254740991.0,
            9007199254740992.0, 9007199254740994.0, 0x1p62, 0x1p63, 0x1.8p83, 0x1.fffffffffffffp83,
            Math.nextDown(1e21), 1e21, Math.nextUp(1e21), 1e22, 1e23, 1e100, 0x1p1023,
            Math.nextDown(Double.MAX_VALUE), Double.MAX_VALUE, Double.POSITIVE_INFINITY
        };
        long[] nans = {0x7FF8000000000000L, 0xFFF8000000000000L, 0x7FF0000000000001L, -1L};
        long[] all = new long[2 * some.length + nans.length];
        for (int i = 0; i < some.length; i++) {
            all[2 * i] = bits(some[i]);
            all[2 * i + 1] = bits(-some[i]);
        }
        System.arraycopy(nans, 0, all, 2 * some.length, nans.length);
        return all;
    }

    /** Any bits; or small wholes, few bits, near exponents or short decimals, which meet edges more often. */
    static long anyBits(Random random) {
        switch (random.nextInt(8)) {
            case 0:
                return bits(random.nextInt(2001) - 1000);
            case 1:
                return bits(Math.scalb((double) (random.nextInt(64) - 32), random.nextInt(120) - 60));
            case 2:
                return random.nextLong() & 0x800FFFFFFFFFFFFFL | (long) (1023 + random.nextInt(64) - 8) << 52;
            case 3:
                return random.nextLong() & (0x8000000000000000L | (1L << random.nextInt(54)) - 1);
            case 4:
                return bits((random.nextInt(200001) - 100000) / Math.pow(10, random.nextInt(9)));
            default:
                return random.nextLong();
        }
    }
}
