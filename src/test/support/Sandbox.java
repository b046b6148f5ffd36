import java.io.IOException;
import java.io.InputStream;
import java.nio.file.Files;
import java.nio.file.Path;
import java.util.List;
import java.util.stream.Stream;

/** A project and a folder shared beside it, away from the real ones, to run commands in. */
final class Sandbox implements AutoCloseable {
    private final Path root;
    private final Path project;
    private String printed = "";

    Sandbox() throws IOException {
        root = Files.createTempDirectory("disjoint-paths");
        project = Files.createDirectory(root.resolve("project"));
    }

    /** Copies a folder or a file of the real project, or of ../shared, to the same place here. */
    void copy(String from) throws IOException {
        for (Path path : inside(Path.of(from))) {
            if (Files.isRegularFile(path)) {
                Files.copy(path, place(path.toString()));
            }
        }
    }

    void write(String to, String text) throws IOException {
        Files.writeString(place(to), text);
    }

    /** Runs a command in the project and answers its exit code. */
    int run(String command) throws IOException, InterruptedException {
        ProcessBuilder builder = new ProcessBuilder("sh", "-c", command);
        Process process = builder.directory(project.toFile()).redirectErrorStream(true).start();
        try (InputStream output = process.getInputStream()) {
            printed = new String(output.readAllBytes());
        }
        return process.waitFor();
    }

    /** What the last command printed. */
    String printed() {
        return printed;
    }

    @Override
    public void close() throws IOException {
        List<Path> all = inside(root);
        // From the last to the first, as a folder comes before what is in it and can be deleted only if empty.
        for (int i = all.size() - 1; i >= 0; i--) {
            Files.delete(all.get(i));
        }
    }

    private Path place(String path) throws IOException {
        Path place = project.resolve(path).normalize();
        Files.createDirectories(place.getParent());
        return place;
    }

    private static List<Path> inside(Path path) throws IOException {
        try (Stream<Path> all = Files.walk(path)) {
            return all.toList();
        }
    }
}
