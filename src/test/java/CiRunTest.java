import java.io.IOException;

/** .ci/run, as README.md names it, on small checkouts: it ends with 0 if all tests pass, and else with another code. */
final class CiRunTest {
    private static final String RIGHT = "public final class %s { public static void main(String[] args) {"
            + " System.exit(new DoubleBits().compare(0, 1) == -1 ? 0 : 1); } }\n";
    private static final String WRONG = "public final class %s { public static void main(String[] args) {"
            + " System.exit(new DoubleBits().compare(0, 1) == -1 ? 1 : 0); } }\n";
    private static final String BROKEN = "public final class %s { public static void main(String[] args) { return 1; } }\n";

    private static final String OWN = "OwnTest";
    private static final String SECOND_OWN = "SecondOwnTest";
    private static final String SHARED = "SharedRuns";
    private static final String SECOND_SHARED = "ZSharedRuns";

    public static void main(String[] args) throws IOException, InterruptedException {
        Check.sentence(".ci/run runs every test of the project and every test under ../shared/tests, and fails if one fails");
        Case[] cases = {
            new Case("all pass", true), new Case("a test of the project fails", false),
            new Case("a test under ../shared/tests fails", false),
            new Case("a test of the project cannot be compiled", false),
            new Case("a test under ../shared/tests cannot be compiled", false),
            new Case("there is no test under ../shared/tests", false),
            new Case("there is no test of the project", false), new Case("the class cannot be compiled", false)
        };
        fill(cases);
        // All are started before the first one is waited for, since each takes seconds.
        for (Case one : cases) {
            one.run = one.checkout.start(".ci/run");
        }
        for (Case one : cases) {
            int code = one.run.code();
            Check.isTrue(".ci/run " + (one.passes ? "passes" : "fails") + " when " + one.what, one.passes == (code == 0));
            everyTestIsTold(one);
            one.checkout.close();
        }
        Check.end();
    }

    private static final class Case {
        private final String what;
        private final boolean passes;
        private final Checkout checkout;
        private Checkout.Run run;

        Case(String what, boolean passes) throws IOException {
            this.what = what;
            this.passes = passes;
            checkout = new Checkout();
            checkout.copy(".ci/run");
            checkout.copy("src/main/java/DoubleBits.java");
        }

        void own(String name, String words) throws IOException {
            checkout.write("src/test/java/" + name + ".java", String.format(words, name));
        }

        void shared(String name, String words) throws IOException {
            checkout.write("../shared/tests/" + name + ".java", String.format(words, name));
        }
    }

    /** The second of two tests passes in each case, so that it is not the last one alone that tells the code. */
    private static void fill(Case[] cases) throws IOException {
        String[] own = {RIGHT, WRONG, RIGHT, BROKEN, RIGHT, RIGHT, "", RIGHT};
        String[] shared = {RIGHT, RIGHT, WRONG, RIGHT, BROKEN, "", RIGHT, RIGHT};
        for (int i = 0; i < cases.length; i++) {
            if (!own[i].isEmpty()) {
                cases[i].own(OWN, own[i]);
                cases[i].own(SECOND_OWN, RIGHT);
            }
            if (!shared[i].isEmpty()) {
                cases[i].shared(SHARED, shared[i]);
                cases[i].shared(SECOND_SHARED, RIGHT);
            }
        }
        cases[cases.length - 1].checkout.write("src/main/java/DoubleBits.java", "public final class DoubleBits {");
    }

    private static void everyTestIsTold(Case one) throws IOException {
        if (!one.passes) {
            return;
        }
        for (String name : new String[] {OWN, SECOND_OWN, SHARED, SECOND_SHARED}) {
            Check.isTrue(name + " is run when " + one.what, one.run.printed().contains("ok: " + name + "\n"));
        }
    }
}
