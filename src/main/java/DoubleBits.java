/**
 * Numbers of a script language: IEEE doubles told by their 64 bits, reckoned by whole numbers
 * alone, read from texts and written as texts.
 */
public final class DoubleBits {
    private final TextReader reader;
    private final TextWriter writer;

    public DoubleBits() {
        reader = new TextReader();
        writer = new TextWriter();
    }

    public int put(long units, int n) throws IllegalArgumentException, IllegalStateException {
        if (n < 1 || n > 4) {
            throw new IllegalArgumentException("n is not 1 .. 4");
        }
        if (!reader.hasRoomFor(n)) {
            throw new IllegalStateException("the text would have more than 600 units");
        }
        for (int i = n - 1; i >= 0; i--) {
            reader.append((int) (units >>> (16 * i)) & 0xFFFF);
        }
        return reader.length();
    }

    public long read() {
        long number = reader.numberOfText();
        reader.clear();
        return number;
    }

    public long reckon(long a, long b, int what) throws IllegalArgumentException {
        switch (what) {
            case 0:
                return Arithmetic.sum(a, b);
            case 1:
                return Arithmetic.difference(a, b);
            case 2:
                return Arithmetic.product(a, b);
            case 3:
                return Arithmetic.quotient(a, b);
            case 4:
                return Arithmetic.remainder(a, b);
            default:
                throw new IllegalArgumentException("what is not 0 .. 4");
        }
    }

    public long turn(long a, int what) throws IllegalArgumentException {
        if (what < 0 || what > 6) {
            throw new IllegalArgumentException("what is not 0 .. 6");
        }
        if (Bits.isNan(a)) {
            return Bits.NAN;
        }
        if (what == 0) {
            return Arithmetic.root(a);
        }
        if (what == 5) {
            return a ^ Bits.SIGN;
        }
        if (what == 6) {
            return Bits.magnitude(a);
        }
        return Wholes.wholeNear(a, what);
    }

    public int compare(long a, long b) {
        if (Bits.isNan(a) || Bits.isNan(b)) {
            return 2;
        }
        long x = Bits.place(a);
        long y = Bits.place(b);
        if (x == y) {
            return 0;
        }
        return x < y ? -1 : 1;
    }

    public long whole(long a, int what) throws IllegalArgumentException {
        if (what < 0 || what > 2) {
            throw new IllegalArgumentException("what is not 0 .. 2");
        }
        long low = Wholes.lowBits(a);
        if (what == 0) {
            return (int) low;
        }
        return what == 1 ? low & 0xFFFFFFFFL : low & 0xFFFFL;
    }

    public long of(long whole) {
        if (whole >= 0) {
            return Bits.round(0, whole, 0);
        }
        // The least long has no opposite among the longs.
        if (whole == Bits.SIGN) {
            return Bits.round(Bits.SIGN, 1, 63);
        }
        return Bits.round(Bits.SIGN, -whole, 0);
    }

    public int write(long a) {
        writer.writeText(a);
        return writer.length();
    }

    public int radix(long a, int radix) throws IllegalArgumentException {
        if (radix < 2 || radix > 36 || radix == 10) {
            throw new IllegalArgumentException("the radix is not 2 .. 36, or it is 10");
        }
        writer.writeInRadix(a, radix);
        return writer.length();
    }

    public int form(long a, int form, int digits) throws IllegalArgumentException {
        switch (form) {
            case 0:
                if (digits < 0 || digits > 20) {
                    throw new IllegalArgumentException("digits is not 0 .. 20");
                }
                writer.writeFixed(a, digits);
                break;
            case 1:
                if (digits < -1 || digits > 20) {
                    throw new IllegalArgumentException("digits is not -1 .. 20");
                }
                writer.writeExponential(a, digits);
                break;
            case 2:
                if (digits < 1 || digits > 21) {
                    throw new IllegalArgumentException("digits is not 1 .. 21");
                }
                writer.writePrecise(a, digits);
                break;
            default:
                throw new IllegalArgumentException("the form is not 0 .. 2");
        }
        return writer.length();
    }

    public int unit(int k) throws IndexOutOfBoundsException {
        if (k < 0 || k >= writer.length()) {
            throw new IndexOutOfBoundsException("there is no such unit");
        }
        return writer.unitAt(k);
    }

    /** What the 64 bits of a number say, and the way from an exact value to them. */
    private static final class Bits {
        static final long SIGN = 0x8000000000000000L;
        static final long INFINITE = 0x7FF0000000000000L;
        static final long NAN = 0x7FF8000000000000L;
        static final long FRACTION = 0x000FFFFFFFFFFFFFL;
        static final long HIDDEN = 0x0010000000000000L;
        static final int MANTISSA_BITS = 53;
        static final int LEAST_EXPONENT = -1074;
        static final int GREATEST_EXPONENT = 971;

        static long magnitude(long a) {
            return a & ~SIGN;
        }

        static boolean isNan(long a) {
            return magnitude(a) > INFINITE;
        }

        static boolean isInfinite(long a) {
            return magnitude(a) == INFINITE;
        }

        static boolean isZero(long a) {
            return magnitude(a) == 0;
        }

        /** A whole number that is ordered as the numbers are, with one place for both zeros. */
        static long place(long a) {
            return a >= 0 ? a : -magnitude(a);
        }

        /** With exponent(a): a finite number is mantissa * 2^exponent. */
        static long mantissa(long a) {
            long fraction = a & FRACTION;
            return (a & INFINITE) == 0 ? fraction : fraction | HIDDEN;
        }

        static int exponent(long a) {
            int field = (int) (magnitude(a) >>> 52);
            return (field == 0 ? 1 : field) - 1075;
        }

        /** How far a mantissa can be shifted up until it has 53 bits. */
        static int lift(long mantissa) {
            return MANTISSA_BITS - bitLength(mantissa);
        }

        static int bitLength(long x) {
            int length = 0;
            for (int step = 32; step > 0; step >>= 1) {
                if (x >>> step != 0) {
                    x >>>= step;
                    length += step;
                }
            }
            return length + (int) x;
        }

        /** Shifts down, and leaves a trace of lost bits in the lowest one, so that it still rounds rightly. */
        static long shiftDownWithTrace(long x, int shift) {
            if (shift <= 0) {
                return x;
            }
            if (shift > 62) {
                return x == 0 ? 0 : 1;
            }
            long lost = x & ((1L << shift) - 1);
            return lost == 0 ? x >>> shift : (x >>> shift) | 1;
        }

        /**
         * The number nearest to mantissa * 2^exponent; the mantissa is not below 0. One whose lowest
         * bit is a trace of lost ones has 55 bits or more.
         */
        static long round(long sign, long mantissa, int exponent) {
            if (mantissa == 0) {
                return sign;
            }
            int shift = Math.max(-lift(mantissa), LEAST_EXPONENT - exponent);
            if (shift > 63) {
                return sign;
            }
            int last = exponent + shift;
            if (last > GREATEST_EXPONENT) {
                return sign | INFINITE;
            }
            long kept = shift > 0 ? shiftDownToNearest(mantissa, shift) : mantissa << -shift;
            // The hidden bit, and a carry beyond it, count the exponent up by themselves.
            return sign | (((long) (last - LEAST_EXPONENT) << 52) + kept);
        }

        private static long shiftDownToNearest(long x, int shift) {
            long kept = x >>> shift;
            long lost = x & ((1L << shift) - 1);
            long half = 1L << (shift - 1);
            boolean up = lost > half || (lost == half && (kept & 1) != 0);
            return up ? kept + 1 : kept;
        }
    }

    /** Sum, difference, product, quotient, remainder and root. */
    private static final class Arithmetic {
        private static final int GUARD_BITS = 9;
        private static final int QUOTIENT_BITS = 60;
        private static final int REMAINDER_STEP = 10;
        private static final int LOW_BITS = 26;
        private static final long LOW = (1L << LOW_BITS) - 1;

        static long sum(long a, long b) {
            if (Bits.isNan(a) || Bits.isNan(b)) {
                return Bits.NAN;
            }
            if (Bits.isInfinite(a)) {
                return Bits.isInfinite(b) && a != b ? Bits.NAN : a;
            }
            if (Bits.isInfinite(b)) {
                return b;
            }
            return Bits.magnitude(a) >= Bits.magnitude(b) ? sumOfOrdered(a, b) : sumOfOrdered(b, a);
        }

        static long difference(long a, long b) {
            return sum(a, b ^ Bits.SIGN);
        }

        private static long sumOfOrdered(long large, long small) {
            int exponent = Bits.exponent(large);
            long x = Bits.mantissa(large) << GUARD_BITS;
            long y = Bits.shiftDownWithTrace(
                    Bits.mantissa(small) << GUARD_BITS, exponent - Bits.exponent(small));
            if ((large ^ small) >= 0) {
                return Bits.round(large & Bits.SIGN, x + y, exponent - GUARD_BITS);
            }
            return x == y ? 0 : Bits.round(large & Bits.SIGN, x - y, exponent - GUARD_BITS);
        }

        static long product(long a, long b) {
            if (Bits.isNan(a) || Bits.isNan(b)) {
                return Bits.NAN;
            }
            long sign = (a ^ b) & Bits.SIGN;
            boolean zero = Bits.isZero(a) || Bits.isZero(b);
            if (Bits.isInfinite(a) || Bits.isInfinite(b)) {
                return zero ? Bits.NAN : sign | Bits.INFINITE;
            }
            return zero ? sign : productOfFinite(sign, a, b);
        }

        private static long productOfFinite(long sign, long a, long b) {
            int liftOfA = Bits.lift(Bits.mantissa(a));
            int liftOfB = Bits.lift(Bits.mantissa(b));
            long x = Bits.mantissa(a) << liftOfA;
            long y = Bits.mantissa(b) << liftOfB;
            long low = (x & LOW) * (y & LOW);
            long middle = (x >>> LOW_BITS) * (y & LOW) + (x & LOW) * (y >>> LOW_BITS) + (low >>> LOW_BITS);
            long high = (x >>> LOW_BITS) * (y >>> LOW_BITS) + (middle >>> LOW_BITS);
            long tail = ((middle & LOW) << LOW_BITS) | (low & LOW);
            // Eight bits of the tail make room for the trace of the others.
            long kept = (high << 8) | Bits.shiftDownWithTrace(tail, 44);
            int exponent = Bits.exponent(a) - liftOfA + Bits.exponent(b) - liftOfB + 44;
            return Bits.round(sign, kept, exponent);
        }

        static long quotient(long a, long b) {
            if (Bits.isNan(a) || Bits.isNan(b)) {
                return Bits.NAN;
            }
            boolean bothInfinite = Bits.isInfinite(a) && Bits.isInfinite(b);
            boolean bothZero = Bits.isZero(a) && Bits.isZero(b);
            if (bothInfinite || bothZero) {
                return Bits.NAN;
            }
            long sign = (a ^ b) & Bits.SIGN;
            if (Bits.isInfinite(a) || Bits.isZero(b)) {
                return sign | Bits.INFINITE;
            }
            if (Bits.isZero(a) || Bits.isInfinite(b)) {
                return sign;
            }
            return quotientOfFinite(sign, a, b);
        }

        private static long quotientOfFinite(long sign, long a, long b) {
            int liftOfA = Bits.lift(Bits.mantissa(a));
            int liftOfB = Bits.lift(Bits.mantissa(b));
            long divisor = Bits.mantissa(b) << liftOfB;
            long rest = Bits.mantissa(a) << liftOfA;
            long quotient = 0;
            for (int i = 0; i <= QUOTIENT_BITS; i++) {
                quotient <<= 1;
                if (rest >= divisor) {
                    rest -= divisor;
                    quotient |= 1;
                }
                rest <<= 1;
            }
            int exponent = Bits.exponent(a) - liftOfA - (Bits.exponent(b) - liftOfB) - QUOTIENT_BITS;
            return Bits.round(sign, rest == 0 ? quotient : quotient | 1, exponent);
        }

        static long remainder(long a, long b) {
            long divisor = Bits.mantissa(b);
            if (Bits.isNan(a) || Bits.isNan(b) || Bits.isInfinite(a) || divisor == 0) {
                return Bits.NAN;
            }
            if (Bits.isInfinite(b) || Bits.magnitude(a) < Bits.magnitude(b)) {
                return a;
            }
            long rest = Bits.mantissa(a) % divisor;
            // A rest has 53 bits at most, so ten more still fit a long.
            for (int left = Bits.exponent(a) - Bits.exponent(b); left > 0; left -= REMAINDER_STEP) {
                rest = (rest << Math.min(left, REMAINDER_STEP)) % divisor;
            }
            return Bits.round(a & Bits.SIGN, rest, Bits.exponent(b));
        }

        /** The root of what is not NAN. */
        static long root(long a) {
            if (Bits.isZero(a)) {
                return a;
            }
            if (a < 0) {
                return Bits.NAN;
            }
            return Bits.isInfinite(a) ? a : rootOfFinite(a);
        }

        private static long rootOfFinite(long a) {
            int lift = Bits.lift(Bits.mantissa(a));
            int exponent = Bits.exponent(a) - lift;
            // Only an even exponent can be halved.
            int odd = exponent & 1;
            long square = Bits.mantissa(a) << (lift + odd);
            long root = 0;
            long rest = 0;
            for (int pair = 26; pair >= -30; pair--) {
                rest = (rest << 2) | (pair >= 0 ? (square >>> (2 * pair)) & 3 : 0);
                long trial = (root << 2) | 1;
                root <<= 1;
                if (rest >= trial) {
                    rest -= trial;
                    root |= 1;
                }
            }
            return Bits.round(0, rest == 0 ? root << 1 : (root << 1) | 1, ((exponent - odd) >> 1) - 31);
        }
    }

    /** The ways from a number to a whole one. */
    private static final class Wholes {
        private static final int FLOOR = 1;
        private static final int CEILING = 2;
        private static final int CUT = 3;
        /** Any shift from here on leaves nothing of a mantissa, and not even a half. */
        private static final int FARTHEST_SHIFT = 60;

        /** Floor, ceiling, cut or nearest of what is not NAN. */
        static long wholeNear(long a, int way) {
            if (Bits.isInfinite(a) || Bits.exponent(a) >= 0) {
                return a;
            }
            int shift = Math.min(-Bits.exponent(a), FARTHEST_SHIFT);
            long mantissa = Bits.mantissa(a);
            long rest = mantissa & ((1L << shift) - 1);
            long cut = mantissa >>> shift;
            boolean away = goesAway(a < 0, rest, 1L << (shift - 1), way);
            return Bits.round(a & Bits.SIGN, away ? cut + 1 : cut, 0);
        }

        /** Whether the whole number is the one farther from 0, rest being what was cut off. */
        private static boolean goesAway(boolean negative, long rest, long half, int way) {
            switch (way) {
                case FLOOR:
                    return negative && rest != 0;
                case CEILING:
                    return !negative && rest != 0;
                case CUT:
                    return false;
                default:
                    return negative ? rest > half : rest >= half;
            }
        }

        /** A number cut off, in its lowest 32 bits at least; 0 for NAN and infinite ones. */
        static long lowBits(long a) {
            int exponent = Bits.exponent(a);
            if (Bits.magnitude(a) >= Bits.INFINITE || exponent >= 32 || exponent <= -Bits.MANTISSA_BITS) {
                return 0;
            }
            long mantissa = Bits.mantissa(a);
            long low = exponent >= 0 ? mantissa << exponent : mantissa >>> -exponent;
            return a < 0 ? -low : low;
        }
    }

    /** A whole number not below 0 of any size that is needed here, in one row that is used again. */
    private static final class Natural {
        static final int LIMB_BITS = 30;
        private static final int LIMB = (1 << LIMB_BITS) - 1;
        /** The greatest that is needed has some 1,200 bits. */
        private static final int ROOM = 48;
        private static final int[] POWERS_OF_TEN = {
            1, 10, 100, 1000, 10000, 100000, 1000000, 10000000, 100000000, 1000000000
        };

        private final int[] limbs;
        private int used;

        Natural() {
            limbs = new int[ROOM];
            used = 0;
        }

        void set(long value) {
            for (int i = 0; i < 3; i++) {
                limbs[i] = (int) (value >>> (LIMB_BITS * i)) & LIMB;
            }
            used = 3;
            dropLeadingZeros();
        }

        void copy(Natural other) {
            used = other.used;
            for (int i = 0; i < used; i++) {
                limbs[i] = other.limbs[i];
            }
        }

        boolean isZero() {
            return used == 0;
        }

        private int limbAt(int i) {
            return i >= 0 && i < used ? limbs[i] : 0;
        }

        private void dropLeadingZeros() {
            while (used > 0 && limbs[used - 1] == 0) {
                used--;
            }
        }

        int bitLength() {
            return used == 0 ? 0 : (used - 1) * LIMB_BITS + Bits.bitLength(limbs[used - 1]);
        }

        /** How many bits of the highest limb are free; shifted up by so many it can divide. */
        int slack() {
            return used == 0 ? 0 : LIMB_BITS - Bits.bitLength(limbs[used - 1]);
        }

        /** -1, 0 or 1: below the other, equal to it, above it. */
        int order(Natural other) {
            if (used != other.used) {
                return used < other.used ? -1 : 1;
            }
            for (int i = used - 1; i >= 0; i--) {
                if (limbs[i] != other.limbs[i]) {
                    return limbs[i] < other.limbs[i] ? -1 : 1;
                }
            }
            return 0;
        }

        void add(Natural other) {
            int length = Math.max(used, other.used);
            int carry = 0;
            for (int i = 0; i < length; i++) {
                carry += limbAt(i) + other.limbAt(i);
                limbs[i] = carry & LIMB;
                carry >>>= LIMB_BITS;
            }
            used = length;
            append(carry);
        }

        /** Factor and addend have at most as many bits as a limb. */
        void multiplyAndAdd(int factor, int addend) {
            long carry = addend;
            for (int i = 0; i < used; i++) {
                carry += (long) limbs[i] * factor;
                limbs[i] = (int) carry & LIMB;
                carry >>>= LIMB_BITS;
            }
            append((int) carry);
        }

        private void append(int limb) {
            if (limb != 0 && used < ROOM) {
                limbs[used] = limb;
                used++;
            }
        }

        void multiplyByPowerOfTen(int power) {
            for (int left = power; left > 0; left -= 9) {
                multiplyAndAdd(POWERS_OF_TEN[Math.min(left, 9)], 0);
            }
        }

        void shiftUp(int bits) {
            if (bits <= 0 || used == 0) {
                return;
            }
            int far = bits / LIMB_BITS;
            int near = bits % LIMB_BITS;
            int length = Math.min(used + far + 1, ROOM);
            // From above, so that no limb is written before it was read.
            for (int i = length - 1; i >= 0; i--) {
                limbs[i] = ((limbAt(i - far) << near) | (limbAt(i - far - 1) >>> (LIMB_BITS - near))) & LIMB;
            }
            used = length;
            dropLeadingZeros();
        }

        /** Takes the limb at i out, and with it all that stands above. */
        int takeFrom(int i) {
            int limb = limbAt(i);
            if (i >= 0 && i < used) {
                used = i;
                dropLeadingZeros();
            }
            return limb;
        }

        /** Becomes the quotient; answers the remainder. */
        int divideBySmall(int divisor) {
            if (divisor <= 0) {
                return 0;
            }
            long rest = 0;
            for (int i = used - 1; i >= 0; i--) {
                rest = (rest << LIMB_BITS) | limbs[i];
                limbs[i] = (int) (rest / divisor);
                rest %= divisor;
            }
            dropLeadingZeros();
            return (int) rest;
        }

        /** Becomes the remainder; answers the quotient, below 2^20. The divisor has no slack. */
        int divideLeavingRest(Natural divisor) {
            int top = divisor.used;
            if (top == 0) {
                return 0;
            }
            long head = ((long) limbAt(top) << LIMB_BITS) | limbAt(top - 1);
            // So small a quotient, guessed by a divisor too great by 2^-29 at most, lacks 1 or nothing.
            int quotient = (int) (head / (divisor.limbAt(top - 1) + 1L));
            subtractTimes(divisor, quotient);
            if (order(divisor) >= 0) {
                subtractTimes(divisor, 1);
                quotient++;
            }
            return quotient;
        }

        private void subtractTimes(Natural other, int factor) {
            long carry = 0;
            for (int i = 0; i < used; i++) {
                carry += limbs[i] - (long) other.limbAt(i) * factor;
                limbs[i] = (int) carry & LIMB;
                carry >>= LIMB_BITS;
            }
            dropLeadingZeros();
        }
    }

    /** Decimal digits of a number above 0: it is about 0.d1 d2 d3 .. * 10^point. */
    private static final class Decimal {
        private static final int ROOM = 48;
        private static final int MOST_SHORTEST_DIGITS = 17;

        private final int[] digits;
        private int count;
        private int point;
        /** rest / scale is what the digits leave of the number, in places of the last digit. */
        private final Natural rest;
        private final Natural scale;
        /** How far below and above the number a value may lie that still rounds to it. */
        private final Natural below;
        private final Natural above;
        private final Natural sum;

        Decimal() {
            digits = new int[ROOM];
            rest = new Natural();
            scale = new Natural();
            below = new Natural();
            above = new Natural();
            sum = new Natural();
            count = 0;
            point = 1;
        }

        int length() {
            return count;
        }

        int pointPlace() {
            return point;
        }

        int digitAt(int i) {
            return i >= 0 && i < count ? digits[i] : 0;
        }

        /** Zeros alone, the first of them before the point. */
        void makeZero() {
            count = 0;
            point = 1;
        }

        /** The fewest digits that round to the number. */
        void makeShortest(long a) {
            begin(a);
            boolean even = (a & 1) == 0;
            boolean nearBelow = (a & Bits.FRACTION) == 0 && Bits.exponent(a) > Bits.LEAST_EXPONENT;
            above.copy(below);
            above.shiftUp(1);
            if (!nearBelow) {
                below.shiftUp(1);
            }
            boolean done = false;
            for (int i = 0; i < MOST_SHORTEST_DIGITS && !done; i++) {
                below.multiplyAndAdd(10, 0);
                above.multiplyAndAdd(10, 0);
                rest.multiplyAndAdd(10, 0);
                append(rest.divideLeavingRest(scale));
                done = endShortest(even);
            }
            dropTrailingZeros();
        }

        /** Ends when the digits, or those one greater, round to the number; an even one has ties too. */
        private boolean endShortest(boolean even) {
            int restToBelow = rest.order(below);
            sum.copy(rest);
            sum.add(above);
            int sumToScale = sum.order(scale);
            boolean canStay = restToBelow < 0 || (even && restToBelow == 0);
            boolean canGoUp = sumToScale > 0 || (even && sumToScale == 0);
            boolean goesUp = canGoUp;
            if (canStay && canGoUp) {
                int middle = twiceRestToScale();
                goesUp = middle > 0 || (middle == 0 && (digitAt(count - 1) & 1) != 0);
            }
            if (goesUp) {
                countUp();
            }
            return canStay || canGoUp;
        }

        private int twiceRestToScale() {
            sum.copy(rest);
            sum.add(rest);
            return sum.order(scale);
        }

        /** So many digits, of two as near the greater ones. */
        void makeDigits(long a, int wanted) {
            begin(a);
            takeDigits(wanted);
            // Nines that were counted up have become one digit more.
            count = Math.min(count, wanted);
        }

        /** The digits down to so many places behind the point, of two as near the greater ones. */
        void makePlaces(long a, int places) {
            begin(a);
            if (point + places >= 0) {
                takeDigits(point + places);
            }
        }

        private void takeDigits(int wanted) {
            for (int i = 0; i < wanted; i++) {
                rest.multiplyAndAdd(10, 0);
                append(rest.divideLeavingRest(scale));
            }
            if (twiceRestToScale() >= 0) {
                countUp();
            }
        }

        private void append(int digit) {
            if (count < ROOM) {
                digits[count] = digit;
                count++;
            }
        }

        private void countUp() {
            int i = count - 1;
            while (i >= 0 && digits[i] == 9) {
                digits[i] = 0;
                i--;
            }
            if (i >= 0) {
                digits[i]++;
                return;
            }
            // Nothing but nines, or nothing at all.
            append(0);
            digits[0] = 1;
            point++;
        }

        private void dropTrailingZeros() {
            while (count > 1 && digits[count - 1] == 0) {
                count--;
            }
        }

        /** Sets rest / scale to a / 10^point, 0.1 or more and below 1, and below to a quarter of a's last place. */
        private void begin(long a) {
            long mantissa = Bits.mantissa(a);
            int exponent = Bits.exponent(a);
            count = 0;
            point = placesBefore(Bits.bitLength(mantissa) + exponent - 1);
            rest.set(mantissa << 2);
            below.set(1);
            scale.set(4);
            rest.multiplyByPowerOfTen(-point);
            below.multiplyByPowerOfTen(-point);
            scale.multiplyByPowerOfTen(point);
            rest.shiftUp(exponent);
            below.shiftUp(exponent);
            scale.shiftUp(-exponent);
            if (rest.order(scale) >= 0) {
                scale.multiplyAndAdd(10, 0);
                point++;
            }
            int slack = scale.slack();
            rest.shiftUp(slack);
            below.shiftUp(slack);
            scale.shiftUp(slack);
        }

        /** How many digits 2^power has before the point; what is below 2 * 2^power has one more at most. */
        private static int placesBefore(int power) {
            // 78913 / 2^18 is near enough to log10(2) for every power that a number can have.
            return ((power * 78913) >> 18) + 1;
        }
    }

    /** What was written last. */
    private static final class Page {
        /** A sign and 1024 digits of radix 2 are the most. */
        private static final int ROOM = 1100;

        private final char[] units;
        private int count;

        Page() {
            units = new char[ROOM];
            count = 0;
        }

        void clear() {
            count = 0;
        }

        int length() {
            return count;
        }

        int unitAt(int k) {
            return k >= 0 && k < count ? units[k] : 0;
        }

        void add(char c) {
            if (count < ROOM) {
                units[count] = c;
                count++;
            }
        }

        void addText(String text) {
            for (int i = 0; i < text.length(); i++) {
                add(text.charAt(i));
            }
        }

        void addDigit(int digit) {
            add((char) (digit < 10 ? '0' + digit : 'a' + digit - 10));
        }

        void addZeros(int howMany) {
            for (int i = 0; i < howMany; i++) {
                add('0');
            }
        }

        /** e, a sign, and the digits of an exponent of three digits at most. */
        void addExponent(int exponent) {
            add('e');
            add(exponent < 0 ? '-' : '+');
            int left = Math.abs(exponent);
            if (left >= 100) {
                addDigit(left / 100);
            }
            if (left >= 10) {
                addDigit(left / 10 % 10);
            }
            addDigit(left % 10);
        }

        void turnRoundFrom(int start) {
            int i = start;
            int j = count - 1;
            while (i >= 0 && i < j) {
                char c = units[i];
                units[i] = units[j];
                units[j] = c;
                i++;
                j--;
            }
        }

        void dropTrailing(char c) {
            while (count > 0 && units[count - 1] == c) {
                count--;
            }
        }
    }

    /** Writes numbers on the page. */
    private static final class TextWriter {
        private static final long TEN_TO_21 = 0x444B1AE4D6E2EF50L;
        private static final int MOST_PLACES_BEFORE_POINT = 21;
        private static final int MOST_RADIX_PLACES = 52;
        /** Far above the chunks of digits that the greatest number has. */
        private static final int MOST_CHUNKS = 2000;

        private final Page page;
        private final Decimal decimal;
        private final Natural natural;

        TextWriter() {
            page = new Page();
            decimal = new Decimal();
            natural = new Natural();
        }

        int length() {
            return page.length();
        }

        int unitAt(int k) {
            return page.unitAt(k);
        }

        /** Begins the page anew; answers whether all is written, a being NAN or infinite. */
        private boolean begin(long a) {
            page.clear();
            if (Bits.isNan(a)) {
                page.addText("NaN");
                return true;
            }
            if (a < 0 && !Bits.isZero(a)) {
                page.add('-');
            }
            if (Bits.isInfinite(a)) {
                page.addText("Infinity");
                return true;
            }
            return false;
        }

        void writeText(long a) {
            if (begin(a)) {
                return;
            }
            if (Bits.isZero(a)) {
                page.add('0');
                return;
            }
            decimal.makeShortest(Bits.magnitude(a));
            int before = decimal.pointPlace();
            int count = decimal.length();
            if (before > MOST_PLACES_BEFORE_POINT || before <= -6) {
                addScientific(count);
                return;
            }
            addPlain(Math.max(count, before));
        }

        void writeFixed(long a, int places) {
            if (begin(a)) {
                return;
            }
            if (Bits.magnitude(a) >= TEN_TO_21) {
                decimal.makeShortest(Bits.magnitude(a));
                addScientific(decimal.length());
                return;
            }
            if (Bits.isZero(a)) {
                decimal.makeZero();
            } else {
                decimal.makePlaces(Bits.magnitude(a), places);
            }
            int before = decimal.pointPlace();
            addDigitsBeforePoint();
            if (places > 0) {
                page.add('.');
            }
            for (int i = 0; i < places; i++) {
                page.addDigit(decimal.digitAt(before + i));
            }
        }

        void writeExponential(long a, int places) {
            if (begin(a)) {
                return;
            }
            if (Bits.isZero(a)) {
                decimal.makeZero();
                addScientific(Math.max(places, 0) + 1);
            } else if (places < 0) {
                decimal.makeShortest(Bits.magnitude(a));
                addScientific(decimal.length());
            } else {
                decimal.makeDigits(Bits.magnitude(a), places + 1);
                addScientific(places + 1);
            }
        }

        void writePrecise(long a, int wanted) {
            if (begin(a)) {
                return;
            }
            if (Bits.isZero(a)) {
                decimal.makeZero();
            } else {
                decimal.makeDigits(Bits.magnitude(a), wanted);
            }
            int exponent = decimal.pointPlace() - 1;
            if (exponent < -6 || exponent >= wanted) {
                addScientific(wanted);
            } else {
                addPlain(wanted);
            }
        }

        /** The first digit, a point and the others, and the exponent. */
        private void addScientific(int wanted) {
            page.addDigit(decimal.digitAt(0));
            if (wanted > 1) {
                page.add('.');
            }
            for (int i = 1; i < wanted; i++) {
                page.addDigit(decimal.digitAt(i));
            }
            page.addExponent(decimal.pointPlace() - 1);
        }

        /** So many digits, as many as stand before the point at least, with a point if one is needed. */
        private void addPlain(int wanted) {
            int before = decimal.pointPlace();
            addDigitsBeforePoint();
            if (wanted <= before) {
                return;
            }
            page.add('.');
            page.addZeros(-before);
            for (int i = Math.max(before, 0); i < wanted; i++) {
                page.addDigit(decimal.digitAt(i));
            }
        }

        private void addDigitsBeforePoint() {
            int before = decimal.pointPlace();
            if (before <= 0) {
                page.add('0');
            }
            for (int i = 0; i < before; i++) {
                page.addDigit(decimal.digitAt(i));
            }
        }

        void writeInRadix(long a, int radix) {
            if (begin(a)) {
                return;
            }
            long mantissa = Bits.mantissa(a);
            int exponent = Bits.exponent(a);
            int behind = Math.max(-exponent, 0);
            // A mantissa lies behind the point as a whole long before a shift by 62.
            int shift = Math.min(behind, 62);
            natural.set(mantissa >>> shift);
            natural.shiftUp(exponent);
            addWholeInRadix(radix);
            addRestInRadix(mantissa & ((1L << shift) - 1), behind, radix);
        }

        /** Takes as many digits at once as a limb can hold. */
        private void addWholeInRadix(int radix) {
            if (natural.isZero() || radix < 2) {
                page.add('0');
                return;
            }
            int chunk = radix;
            int digitsOfChunk = 1;
            while (digitsOfChunk < Natural.LIMB_BITS && chunk < (1 << Natural.LIMB_BITS) / radix) {
                chunk *= radix;
                digitsOfChunk++;
            }
            int start = page.length();
            for (int i = 0; i < MOST_CHUNKS && !natural.isZero(); i++) {
                int left = natural.divideBySmall(chunk);
                for (int k = 0; k < digitsOfChunk; k++) {
                    page.addDigit(left % radix);
                    left /= radix;
                }
            }
            // The highest chunk may begin with zeros, which are still the last ones here.
            page.dropTrailing('0');
            page.turnRoundFrom(start);
        }

        private void addRestInRadix(long rest, int behind, int radix) {
            if (rest == 0) {
                return;
            }
            // The point is put between two limbs: then the limb above it is the next digit.
            int limb = (behind + Natural.LIMB_BITS - 1) / Natural.LIMB_BITS;
            natural.set(rest);
            natural.shiftUp(limb * Natural.LIMB_BITS - behind);
            page.add('.');
            for (int i = 0; i < MOST_RADIX_PLACES && !natural.isZero(); i++) {
                natural.multiplyAndAdd(radix, 0);
                page.addDigit(natural.takeFrom(limb));
            }
            page.dropTrailing('0');
            page.dropTrailing('.');
        }
    }

    /** The text that was put, and its number. */
    private static final class TextReader {
        private static final int ROOM = 600;
        private static final int MOST_COUNTING_DIGITS = 20;
        /** An exponent from here on is beyond what 600 digits can make up for. */
        private static final int FAR_EXPONENT = 100000;
        private static final int QUOTIENT_STEP = 20;
        private static final String INFINITY = "Infinity";

        private final int[] units;
        private int count;
        /** Where the part that is looked at begins and ends. */
        private int at;
        private int end;
        private final Natural numerator;
        private final Natural denominator;
        private int counting;
        private int power;

        TextReader() {
            units = new int[ROOM];
            count = 0;
            at = 0;
            end = 0;
            numerator = new Natural();
            denominator = new Natural();
            counting = 0;
            power = 0;
        }

        boolean hasRoomFor(int howMany) {
            return howMany <= ROOM - count;
        }

        void append(int c) {
            if (count < ROOM) {
                units[count] = c;
                count++;
            }
        }

        int length() {
            return count;
        }

        void clear() {
            count = 0;
        }

        long numberOfText() {
            takeBlanksOff();
            if (at >= end) {
                return 0;
            }
            if (unitAt(at) == '0' && (unitAt(at + 1) == 'x' || unitAt(at + 1) == 'X')) {
                at += 2;
                return hexadecimal();
            }
            long sign = takeMinus() ? Bits.SIGN : 0;
            if (isInfinityLeft()) {
                return sign | Bits.INFINITE;
            }
            return takeDecimal() ? sign | roundedDecimal() : Bits.NAN;
        }

        private void takeBlanksOff() {
            at = 0;
            end = count;
            while (at < end && isBlank(units[at])) {
                at++;
            }
            while (end > at && isBlank(units[end - 1])) {
                end--;
            }
        }

        private static boolean isBlank(int c) {
            if (c < 5760) {
                return (c >= 9 && c <= 13) || c == 32 || c == 160;
            }
            return c == 5760 || c == 6158 || (c >= 8192 && c <= 8202) || c == 8232 || c == 8233
                    || c == 8239 || c == 8287 || c == 12288 || c == 65279;
        }

        /** -1 behind the end. */
        private int unitAt(int k) {
            return k >= 0 && k < end ? units[k] : -1;
        }

        private static boolean isDigit(int c) {
            return c >= '0' && c <= '9';
        }

        private long hexadecimal() {
            if (at >= end) {
                return Bits.NAN;
            }
            long kept = 0;
            int exponent = 0;
            for (int i = at; i < end; i++) {
                int digit = hexadecimalDigit(unitAt(i));
                if (digit < 0) {
                    return Bits.NAN;
                }
                if (kept >>> 58 == 0) {
                    kept = (kept << 4) | digit;
                } else {
                    // Of what is beyond the mantissa a trace is enough to round.
                    kept = digit == 0 ? kept : kept | 1;
                    exponent += 4;
                }
            }
            return Bits.round(0, kept, exponent);
        }

        private static int hexadecimalDigit(int c) {
            if (isDigit(c)) {
                return c - '0';
            }
            if (c >= 'a' && c <= 'f') {
                return c - 'a' + 10;
            }
            return c >= 'A' && c <= 'F' ? c - 'A' + 10 : -1;
        }

        /** Takes a sign, if there is one; whether it was a minus. */
        private boolean takeMinus() {
            int c = unitAt(at);
            if (c == '+' || c == '-') {
                at++;
            }
            return c == '-';
        }

        private boolean isInfinityLeft() {
            if (end - at != INFINITY.length()) {
                return false;
            }
            for (int i = 0; i < INFINITY.length(); i++) {
                if (unitAt(at + i) != INFINITY.charAt(i)) {
                    return false;
                }
            }
            return true;
        }

        /** Takes a decimal as numerator * 10^power; whether there is one, and nothing behind it. */
        private boolean takeDecimal() {
            numerator.set(0);
            counting = 0;
            power = 0;
            int digits = takeDigits(false);
            if (unitAt(at) == '.') {
                at++;
                digits += takeDigits(true);
            }
            if (digits == 0) {
                return false;
            }
            if (unitAt(at) == 'e' || unitAt(at) == 'E') {
                at++;
                if (!takeExponent()) {
                    return false;
                }
            }
            return at >= end;
        }

        private int takeDigits(boolean behindPoint) {
            int from = at;
            while (at < end && isDigit(units[at])) {
                takeDigit(units[at] - '0', behindPoint);
                at++;
            }
            return at - from;
        }

        private void takeDigit(int digit, boolean behindPoint) {
            boolean counts = counting > 0 || digit != 0;
            if (counts && counting == MOST_COUNTING_DIGITS) {
                power = behindPoint ? power : power + 1;
                return;
            }
            if (counts) {
                numerator.multiplyAndAdd(10, digit);
                counting++;
            }
            power = behindPoint ? power - 1 : power;
        }

        private boolean takeExponent() {
            boolean minus = takeMinus();
            int from = at;
            int exponent = 0;
            while (at < end && isDigit(units[at])) {
                exponent = exponent < FAR_EXPONENT ? exponent * 10 + units[at] - '0' : exponent;
                at++;
            }
            power = minus ? power - exponent : power + exponent;
            return at > from;
        }

        /** Far powers are told apart first, so that the others fit the room of a Natural. */
        private long roundedDecimal() {
            if (numerator.isZero() || counting + power < -323) {
                return 0;
            }
            if (counting + power > 309) {
                return Bits.INFINITE;
            }
            denominator.set(1);
            numerator.multiplyByPowerOfTen(power);
            denominator.multiplyByPowerOfTen(-power);
            return roundedQuotient();
        }

        private long roundedQuotient() {
            int lift = denominator.bitLength() - numerator.bitLength();
            numerator.shiftUp(lift);
            denominator.shiftUp(-lift);
            int slack = denominator.slack();
            numerator.shiftUp(slack);
            denominator.shiftUp(slack);
            long quotient = numerator.divideLeavingRest(denominator);
            for (int i = 0; i < 3; i++) {
                numerator.shiftUp(QUOTIENT_STEP);
                quotient = (quotient << QUOTIENT_STEP) | numerator.divideLeavingRest(denominator);
            }
            quotient = numerator.isZero() ? quotient : quotient | 1;
            return Bits.round(0, quotient, -lift - 3 * QUOTIENT_STEP);
        }
    }
}
