import java.io.IOException;
import java.nio.file.Files;
import java.nio.file.Path;
import java.util.Comparator;
import java.util.List;
import java.util.stream.Collectors;
import java.util.stream.Stream;

/** A checkout of a test's own, with a directory "shared" beside it, in which commands can be run; it is taken away in the end. */
final class Checkout implements AutoCloseable {
    private final Path root;
    private final Path main;

    /** A command that runs. */
    static final class Run {
        private final Process process;
        private final Path output;

        private Run(Process process, Path output) {
            this.process = process;
            this.output = output;
        }

        int code() throws InterruptedException {
            return process.waitFor();
        }

        /** What has been printed, when code() has answered. */
        String printed() throws IOException {
            return Files.readString(output);
        }
    }

    Checkout() throws IOException {
        root = Files.createTempDirectory("checkout");
        main = Files.createDirectory(root.resolve("main"));
        Files.createDirectories(root.resolve("shared/tests"));
    }

    static List<Path> filesUnder(Path directory) throws IOException {
        try (Stream<Path> paths = Files.walk(directory)) {
            return paths.filter(Files::isRegularFile).collect(Collectors.toList());
        }
    }

    void copyAll(String directory) throws IOException {
        for (Path file : filesUnder(Path.of(directory))) {
            copy(file.toString());
        }
    }

    /** A file of this checkout, at the same place. */
    void copy(String file) throws IOException {
        Path to = main.resolve(file);
        Files.createDirectories(to.getParent());
        Files.copy(Path.of(file), to, java.nio.file.StandardCopyOption.COPY_ATTRIBUTES);
    }

    /** A file with other words, at a place seen from the top of the checkout. */
    void write(String file, String words) throws IOException {
        Path to = main.resolve(file);
        Files.createDirectories(to.getParent());
        Files.writeString(to, words);
    }

    /** Starts commands at the top of the checkout. */
    Run start(String commands) throws IOException {
        Path output = root.resolve("output");
        Process process = new ProcessBuilder("sh", "-e", "-c", commands).directory(main.toFile())
                .redirectErrorStream(true).redirectOutput(output.toFile()).start();
        return new Run(process, output);
    }

    @Override
    public void close() throws IOException {
        List<Path> all;
        try (Stream<Path> paths = Files.walk(root)) {
            all = paths.sorted(Comparator.reverseOrder()).collect(Collectors.toList());
        }
        for (Path path : all) {
            Files.delete(path);
        }
    }
}
