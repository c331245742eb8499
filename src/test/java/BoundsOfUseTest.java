/** The bounds of "What it is": for how many calls an object is used. */
final class BoundsOfUseTest {
    private static final String WORDS = "An object is used for at most 512 calls after it has been made";
    /** What an object and 512 calls may make at most, in bytes: 7.3 million fields of four. */
    private static final long MOST_BYTES = 4 * 7_300_000L;
    private static final int KINDS = 11;
    private static final int UNIT = 10;

    public static void main(String[] args) {
        Check.sentence(WORDS);
        the512thCallOfEachKindAnswers();
        aTextStaysUntilThe512thCall();
        whatWasWrittenStaysUntilThe512thCall();
        refusedCallsWearNothingOut();
        the512DearestCallsAnswer();
        callsFitTheRoom();
        callsMakeNothing();
        Check.end();
    }

    /** An object that was used for 511 calls of all kinds; 2.50 is written, and the text is empty. */
    private static Subject nearlyUsedUp() {
        Subject x = new Subject();
        for (int i = 0; i < Subject.MOST_CALLS - 1; i++) {
            callOfKind(x, i % KINDS);
        }
        Check.same("calls left", x.callsLeft(), 1);
        return x;
    }

    private static void callOfKind(Subject x, int kind) {
        switch (kind) {
            case 0 -> x.put('1', 1);
            case 1 -> x.read();
            case 2 -> x.reckon(Check.bits(1), Check.bits(3), 3);
            case 3 -> x.turn(Check.bits(2), 0);
            case 4 -> x.compare(0, 1);
            case 5 -> x.whole(Check.bits(-1), 1);
            case 6 -> x.of(-1);
            case 7 -> x.write(Check.bits(Math.PI));
            case 8 -> x.radix(Check.bits(Math.PI), 3);
            case 9 -> x.form(Check.bits(2.5), 0, 2);
            default -> x.unit(3);
        }
    }

    private static void the512thCallOfEachKindAnswers() {
        Check.same("put", nearlyUsedUp().put('1', 1), 1);
        Check.same("read", nearlyUsedUp().read(), 0);
        Check.same("reckon", nearlyUsedUp().reckon(Check.bits(1), Check.bits(3), 3), Check.bits(1.0 / 3));
        Check.same("turn", nearlyUsedUp().turn(Check.bits(2), 0), Check.bits(Math.sqrt(2)));
        Check.same("compare", nearlyUsedUp().compare(0, 1), -1);
        Check.same("whole", nearlyUsedUp().whole(Check.bits(-1), 1), 4294967295L);
        Check.same("of", nearlyUsedUp().of(-1), Check.bits(-1));
        Check.same("write", nearlyUsedUp().write(Check.bits(Math.PI)), 17);
        Check.same("radix", nearlyUsedUp().radix(Check.bits(Double.MAX_VALUE), 2), 1024);
        Check.same("form", nearlyUsedUp().form(Check.bits(2.5), 0, 20), 22);
        Check.same("unit", nearlyUsedUp().unit(3), '0');
        Check.throwsJust("unit", IndexOutOfBoundsException.class, () -> nearlyUsedUp().unit(4));
        Check.throwsJust("put", IllegalArgumentException.class, () -> nearlyUsedUp().put('1', 5));
    }

    private static void aTextStaysUntilThe512thCall() {
        Subject x = new Subject();
        Check.putText(x, " ".repeat(598) + "89");
        while (x.callsLeft() > 1) {
            callOfKind(x, 2 + x.callsLeft() % 8);
        }
        Check.same("read as the 512th call", x.read(), Check.bits(89));
    }

    private static void whatWasWrittenStaysUntilThe512thCall() {
        Subject x = new Subject();
        x.radix(Check.bits(255), 16);
        while (x.callsLeft() > 1) {
            callOfKind(x, x.callsLeft() % 7);
        }
        Check.same("unit as the 512th call", x.unit(1), 'f');
    }

    private static void refusedCallsWearNothingOut() {
        Subject x = new Subject();
        x.put('7', 1);
        while (x.callsLeft() > 1) {
            Check.throwsJust("put of 5", IllegalArgumentException.class, () -> x.put('1', 5));
        }
        Check.same("read behind 510 refused calls", x.read(), Check.bits(7));
    }

    /** Texts as long as they can be, from numbers as large and as small as they can be. */
    private static void the512DearestCallsAnswer() {
        Subject x = new Subject();
        for (int i = 0; i < Subject.MOST_CALLS / 8; i++) {
            Check.same("radix 2", x.radix(Check.bits(-Double.MAX_VALUE), 2), 1025);
            Check.same("radix 36", x.radix(Check.bits(Double.MAX_VALUE), 36), 199);
            Check.same("radix 3", x.radix(Check.bits(1 - 0x1p-53), 3), 54);
            Check.same("write", x.write(0x8010000000000000L), 24);
            Check.same("exponential", x.form(0x8000000000000001L, 1, 20), 28);
            Check.same("fixed", x.form(Check.bits(-Math.nextDown(1e21)), 0, 20), 43);
            Check.same("precise", x.form(Check.bits(-1.5e-6), 2, 21), 29);
            Check.same("remainder", x.reckon(Check.bits(Double.MAX_VALUE), Check.bits(3 * Double.MIN_VALUE), 4),
                    Check.bits(Double.MAX_VALUE % (3 * Double.MIN_VALUE)));
        }
        Check.same("calls left", x.callsLeft(), 0);
    }

    private static void callsFitTheRoom() {
        Check.sentence("All that is made is made once");
        long before = bytesMade();
        Subject x = new Subject();
        while (x.callsLeft() > 4) {
            x.radix(Check.bits(-Double.MAX_VALUE), 2);
            x.write(0x8010000000000000L);
            x.form(0x8000000000000001L, 1, 20);
            x.form(Check.bits(-1e-6), 2, 21);
        }
        Check.isTrue("512 calls fit the room", bytesMade() - before < MOST_BYTES);
    }

    /** Of each kind of call: were one object made by each, the least one has 16 bytes. */
    private static void callsMakeNothing() {
        Check.sentence("All that is made is made once, and not by calls");
        for (int kind = 0; kind < KINDS; kind++) {
            bytesMadeBy512Calls(kind);
            Check.isTrue("512 calls of kind " + kind + " make nothing",
                    bytesMadeBy512Calls(kind) < 8 * Subject.MOST_CALLS);
        }
    }

    private static long bytesMadeBy512Calls(int kind) {
        Subject x = new Subject();
        if (kind == UNIT) {
            x.write(Check.bits(12.5));
        }
        long before = bytesMade();
        while (x.callsLeft() > 0) {
            callOfKind(x, kind);
        }
        return bytesMade() - before;
    }

    /** What this thread has made so far, in bytes; 0 where the machine does not count it. */
    private static long bytesMade() {
        Object bean = java.lang.management.ManagementFactory.getThreadMXBean();
        if (bean instanceof com.sun.management.ThreadMXBean threads && threads.isThreadAllocatedMemorySupported()) {
            return threads.getThreadAllocatedBytes(Thread.currentThread().getId());
        }
        return 0;
    }
}
