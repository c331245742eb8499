/** "A call that throws changes nothing; of two exceptions of a call the first one told goes." */
final class RefusedCallsTest {
    private static final long FIVE = Check.bits(5);

    /** What is done with an object. */
    interface Act {
        void on(Subject x);
    }

    /** A call that is refused in every state, and by what. */
    private static final class Refused {
        final String name;
        final Class<? extends RuntimeException> due;
        final Act call;

        Refused(String name, Class<? extends RuntimeException> due, Act call) {
            this.name = name;
            this.due = due;
            this.call = call;
        }
    }

    public static void main(String[] args) {
        aCallThatThrowsChangesNothing();
        allOfThemTogetherChangeNothing();
        moreThan600ChangesNothing();
        theFirstOneToldGoes();
        Check.end();
    }

    private static Refused refusesArgument(String name, Act call) {
        return new Refused(name, IllegalArgumentException.class, call);
    }

    private static Refused refusesIndex(String name, Act call) {
        return new Refused(name, IndexOutOfBoundsException.class, call);
    }

    private static Refused[] refusedCalls() {
        return new Refused[] {
            refusesArgument("put of 0", x -> x.put(0x0031_0032_0033_0034L, 0)),
            refusesArgument("put of 5", x -> x.put(0x0031_0032_0033_0034L, 5)),
            refusesArgument("put of -1", x -> x.put(0x0031_0032_0033_0034L, -1)),
            refusesArgument("put of the greatest", x -> x.put(0x0031_0032_0033_0034L, Integer.MAX_VALUE)),
            refusesArgument("put of the least", x -> x.put(0x0031_0032_0033_0034L, Integer.MIN_VALUE)),
            refusesArgument("reckon -1", x -> x.reckon(FIVE, FIVE, -1)),
            refusesArgument("reckon 5", x -> x.reckon(FIVE, FIVE, 5)),
            refusesArgument("turn -1", x -> x.turn(FIVE, -1)),
            refusesArgument("turn 7", x -> x.turn(FIVE, 7)),
            refusesArgument("whole -1", x -> x.whole(FIVE, -1)),
            refusesArgument("whole 3", x -> x.whole(FIVE, 3)),
            refusesArgument("radix 1", x -> x.radix(FIVE, 1)),
            refusesArgument("radix 10", x -> x.radix(FIVE, 10)),
            refusesArgument("radix 37", x -> x.radix(FIVE, 37)),
            refusesArgument("radix 10 of NAN", x -> x.radix(Check.NAN, 10)),
            refusesArgument("form -1", x -> x.form(FIVE, -1, 1)),
            refusesArgument("form 3", x -> x.form(FIVE, 3, 1)),
            refusesArgument("fixed -1", x -> x.form(FIVE, 0, -1)),
            refusesArgument("fixed 21", x -> x.form(FIVE, 0, 21)),
            refusesArgument("fixed 21 of Infinity", x -> x.form(Check.bits(Check.INFINITE), 0, 21)),
            refusesArgument("exponential -2", x -> x.form(FIVE, 1, -2)),
            refusesArgument("exponential 21", x -> x.form(FIVE, 1, 21)),
            refusesArgument("precise 0", x -> x.form(FIVE, 2, 0)),
            refusesArgument("precise 22", x -> x.form(FIVE, 2, 22)),
            refusesArgument("precise 0 of NAN", x -> x.form(Check.NAN, 2, 0)),
            refusesIndex("unit -1", x -> x.unit(-1)),
            refusesIndex("unit 30", x -> x.unit(30)),
            refusesIndex("unit of the greatest", x -> x.unit(Integer.MAX_VALUE)),
            refusesIndex("unit of the least", x -> x.unit(Integer.MIN_VALUE))
        };
    }

    /** Ways to states: a new object, a text half put, a full one, one that was read, something written, and both. */
    private static Act[] states() {
        return new Act[] {
            x -> { },
            x -> Check.putText(x, "12.5e"),
            x -> Check.putText(x, "-0x"),
            x -> Check.putText(x, " ".repeat(595) + "12.5e"),
            x -> Check.putText(x, " ".repeat(600)),
            x -> Check.readText(x, "12.5"),
            x -> Check.readText(x, "no number"),
            x -> x.write(Check.bits(-12.5)),
            x -> x.write(Check.NAN),
            x -> x.radix(Check.bits(-255.5), 16),
            x -> x.form(Check.bits(1e20), 0, 3),
            x -> {
                Check.putText(x, "+.5E-1");
                x.form(Check.bits(0.001), 2, 5);
            }
        };
    }

    /** What later calls answer, in one row. */
    private static String laterAnswers(Subject x) {
        StringBuilder row = new StringBuilder();
        addUnits(row, x);
        for (int i = 0; i < 6; i++) {
            String thrown = Check.thrownBy(() -> row.append(x.put('2', 1)));
            row.append(thrown).append(' ');
        }
        row.append(Long.toHexString(x.read())).append(' ').append(Long.toHexString(x.read())).append(' ');
        row.append(x.put(0x0031_0032_0033_0034L, 4)).append(' ').append(Long.toHexString(x.read())).append(' ');
        row.append(x.reckon(Check.bits(1), Check.bits(3), 3)).append(' ').append(x.turn(Check.bits(2), 0)).append(' ');
        row.append(x.compare(0, 1)).append(' ').append(x.whole(Check.bits(-1), 1)).append(' ').append(x.of(7));
        addUnits(row, x);
        row.append(x.write(Check.bits(0.1)));
        addUnits(row, x);
        row.append(x.radix(Check.bits(0.1), 3));
        row.append(x.form(Check.bits(0.1), 0, 20));
        addUnits(row, x);
        return row.toString();
    }

    private static void addUnits(StringBuilder row, Subject x) {
        for (int k = -1; k <= 26; k++) {
            int index = k;
            String thrown = Check.thrownBy(() -> row.append((char) x.unit(index)));
            row.append(thrown.equals("nothing") ? "" : "!");
        }
        row.append(' ');
    }

    private static void aCallThatThrowsChangesNothing() {
        Check.sentence("A call that throws changes nothing");
        Act[] states = states();
        for (int i = 0; i < states.length; i++) {
            String due = laterAnswersIn(states[i], x -> { });
            for (Refused refused : refusedCalls()) {
                String got = laterAnswersIn(states[i],
                        x -> Check.throwsJust(refused.name, refused.due, () -> refused.call.on(x)));
                Check.same("what comes behind " + refused.name + " in state " + i, got, due);
            }
        }
    }

    private static void allOfThemTogetherChangeNothing() {
        Check.sentence("A call that throws changes nothing, nor do many");
        for (Act state : states()) {
            String got = laterAnswersIn(state, x -> {
                for (Refused refused : refusedCalls()) {
                    Check.throwsJust(refused.name, refused.due, () -> refused.call.on(x));
                }
            });
            Check.same("what comes behind all refused calls", got, laterAnswersIn(state, x -> { }));
        }
    }

    private static String laterAnswersIn(Act state, Act between) {
        Subject x = new Subject();
        state.on(x);
        between.on(x);
        return laterAnswers(x);
    }

    private static void moreThan600ChangesNothing() {
        Check.sentence("A call that throws changes nothing: IllegalStateException: there would be more than 600");
        for (int had = 597; had <= 600; had++) {
            Act state = withTextOf(had);
            String due = laterAnswersIn(state, x -> { });
            for (int n = 601 - had; n <= 4; n++) {
                int more = n;
                String got = laterAnswersIn(state, x -> Check.throwsJust("put of " + more, IllegalStateException.class,
                        () -> x.put(0x0039_0039_0039_0039L, more)));
                Check.same("what comes behind put of " + n + " to " + had, got, due);
            }
        }
    }

    private static Act withTextOf(int units) {
        return x -> {
            x.write(Check.bits(0.25));
            Check.putText(x, " ".repeat(units - 2) + "12");
        };
    }

    private static void theFirstOneToldGoes() {
        Check.sentence("of two exceptions of a call the first one told goes");
        for (int had = 596; had <= 600; had++) {
            Subject x = new Subject();
            withTextOf(had).on(x);
            for (int n : new int[] {0, 5, 6, -1, 601, Integer.MAX_VALUE, Integer.MIN_VALUE}) {
                Check.throwsJust("put of " + n + " to " + had, IllegalArgumentException.class, () -> x.put(0, n));
            }
            Check.same("read behind it", x.read(), Check.bits(12));
        }
    }
}
