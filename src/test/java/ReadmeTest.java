import java.io.IOException;
import java.nio.file.Files;
import java.nio.file.Path;
import java.util.ArrayList;
import java.util.List;
import java.util.regex.Matcher;
import java.util.regex.Pattern;

/** What README.md says of using the class and of running its tests is so. */
final class ReadmeTest {
    private static final String ALL_TESTS = ".ci/run\n";
    private static final Pattern BLOCK = Pattern.compile("(?s)\n```(\\w+)\n(.*?)```\n(\nit prints\n\n```text\n(.*?)```\n)?");

    public static void main(String[] args) throws IOException, InterruptedException {
        String readme = Files.readString(Path.of("README.md"));
        theExampleIsTheFile(readme);
        theCommandsRunAsTheyStand(readme);
        theTestsAreThere(readme);
        theClassesInsideAreThere(readme);
        thePathsAreThere(readme);
        Check.end();
    }

    private static void theExampleIsTheFile(String readme) throws IOException {
        Check.sentence("README.md says how to use the class");
        String file = Files.readString(Path.of("src/example/java/Example.java"));
        Check.isTrue("the example in README.md is the file", readme.contains("\n```java\n" + file + "```\n"));
    }

    /** But for .ci/run itself, which runs this test; CiRunTest runs it on checkouts of its own. */
    private static void theCommandsRunAsTheyStand(String readme) throws IOException, InterruptedException {
        Check.sentence("the commands that it names run as they stand there");
        List<String> commands = new ArrayList<>();
        Matcher block = BLOCK.matcher(readme);
        while (block.find()) {
            if (block.group(1).equals("sh")) {
                commands.add(block.group(2));
            }
            if (block.group(1).equals("sh") && !block.group(2).equals(ALL_TESTS)) {
                runs(block.group(2), block.group(4));
            }
        }
        Check.same("the blocks of commands", commands.size(), 3);
        Check.isTrue("one is for all tests", commands.contains(ALL_TESTS));
        Check.isTrue(".ci/run can be run", Files.isExecutable(Path.of(".ci/run")));
    }

    private static void runs(String commands, String printed) throws IOException, InterruptedException {
        try (Checkout copy = new Checkout()) {
            copy.copyAll("src");
            Checkout.Run run = copy.start(commands);
            Check.same("the code of " + commands, run.code(), 0);
            if (printed != null) {
                Check.same("what is printed by " + commands, run.printed(), printed);
            }
        }
    }

    private static void theTestsAreThere(String readme) throws IOException {
        Check.sentence("the tests that README.md names");
        Matcher name = Pattern.compile("`(\\w+Test)`").matcher(readme);
        while (name.find()) {
            Check.isTrue(name.group(1) + " is there", Files.exists(Path.of("src/test/java", name.group(1) + ".java")));
        }
        for (Path file : Checkout.filesUnder(Path.of("src/test/java"))) {
            String test = file.getFileName().toString().replace(".java", "");
            boolean ofKind = test.matches("(Promise(0[1-9]|1[0-2])|BoundsOf)\\w+Test");
            Check.isTrue(test + " is told of", ofKind || test.equals("Check") || test.equals("Checkout")
                    || readme.contains("`" + test + "`"));
        }
    }

    private static void theClassesInsideAreThere(String readme) {
        Check.sentence("the classes that README.md names");
        int from = readme.indexOf("## How it is made");
        String section = readme.substring(from, readme.indexOf("\n## ", from));
        for (Class<?> inside : DoubleBits.class.getDeclaredClasses()) {
            Check.isTrue(inside.getSimpleName() + " is told of", section.contains("`" + inside.getSimpleName() + "`"));
        }
        Matcher name = Pattern.compile("`([A-Z]\\w+)`").matcher(section);
        while (name.find()) {
            String due = name.group(1);
            boolean found = java.util.Arrays.stream(DoubleBits.class.getDeclaredClasses())
                    .anyMatch(inside -> inside.getSimpleName().equals(due));
            Check.isTrue(due + " is inside the class", found);
        }
    }

    private static void thePathsAreThere(String readme) {
        Check.sentence("the files that README.md names");
        Matcher path = Pattern.compile("`((?:\\.\\./|\\.ci/|src/)[\\w./]+)`").matcher(readme);
        while (path.find()) {
            Check.isTrue(path.group(1) + " is there", Files.exists(Path.of(path.group(1))));
        }
    }
}
