import java.io.IOException;
import java.nio.file.FileVisitOption;
import java.nio.file.Files;
import java.nio.file.Path;
import java.util.Comparator;
import java.util.List;
import java.util.stream.Stream;

/** A checkout of its own in a new folder, with a shared folder beside it, in which commands are run. */
final class Checkout {
    private final Path root;
    private final Path output;
    private Process process;

    Checkout() throws IOException {
        root = Files.createTempDirectory("twinrows");
        output = root.resolve("output.txt");
        Files.createDirectories(root.resolve("shared/tests"));
        Files.createDirectories(folder());
    }

    Path folder() {
        return root.resolve("main");
    }

    /** Takes a file, or a folder with all that is in it, from the project; its path is told from the project's folder. */
    void take(String name) throws IOException {
        Path from = Path.of(name);
        try (Stream<Path> all = Files.walk(from, FileVisitOption.FOLLOW_LINKS)) {
            for (Path path : all.toList()) {
                Path to = folder().resolve(path).normalize();
                if (Files.isDirectory(path)) {
                    Files.createDirectories(to);
                } else {
                    Files.createDirectories(to.getParent());
                    Files.copy(path, to);
                }
            }
        }
    }

    void write(String name, String text) throws IOException {
        Path to = folder().resolve(name).normalize();
        Files.createDirectories(to.getParent());
        Files.writeString(to, text);
    }

    void remove(String name) throws IOException {
        Files.delete(folder().resolve(name));
    }

    void start(Path where, String... command) throws IOException {
        process = new ProcessBuilder(List.of(command)).directory(where.toFile()).redirectErrorStream(true)
            .redirectOutput(output.toFile()).start();
    }

    int exitCode() throws InterruptedException {
        return process.waitFor();
    }

    /** What the command printed, line by line. */
    List<String> printed() throws IOException {
        return Files.readAllLines(output);
    }

    void delete() throws IOException {
        try (Stream<Path> all = Files.walk(root)) {
            for (Path path : all.sorted(Comparator.reverseOrder()).toList()) {
                Files.delete(path);
            }
        }
    }
}
