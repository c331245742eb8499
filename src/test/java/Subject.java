/** An object under test, which no test uses more often than the document says that one is used. */
final class Subject {
    static final int MOST_CALLS = 512;

    private final DoubleBits object = new DoubleBits();
    private int calls = 0;

    int callsLeft() {
        return MOST_CALLS - calls;
    }

    private DoubleBits next() {
        if (callsLeft() == 0) {
            throw new AssertionError("the test leans on a call behind the 512th");
        }
        calls++;
        return object;
    }

    int put(long units, int n) {
        return next().put(units, n);
    }

    long read() {
        return next().read();
    }

    long reckon(long a, long b, int what) {
        return next().reckon(a, b, what);
    }

    long turn(long a, int what) {
        return next().turn(a, what);
    }

    int compare(long a, long b) {
        return next().compare(a, b);
    }

    long whole(long a, int what) {
        return next().whole(a, what);
    }

    long of(long whole) {
        return next().of(whole);
    }

    int write(long a) {
        return next().write(a);
    }

    int radix(long a, int radix) {
        return next().radix(a, radix);
    }

    int form(long a, int form, int digits) {
        return next().form(a, form, digits);
    }

    int unit(int k) {
        return next().unit(k);
    }
}
