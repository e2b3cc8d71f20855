import java.io.IOException;
import java.nio.charset.StandardCharsets;
import java.nio.file.FileVisitResult;
import java.nio.file.Files;
import java.nio.file.Path;
import java.nio.file.SimpleFileVisitor;
import java.nio.file.attribute.BasicFileAttributes;

/** A directory of its own in which commands are run as somebody at a shell would run them. */
final class Shell {
    private final Path home;

    /** What commands have printed, errors too, and how they ended. */
    record Ending(int code, String printed) {
    }

    Shell() throws IOException {
        home = Files.createTempDirectory("straykeys");
    }

    void write(String place, String words) throws IOException {
        Path file = home.resolve(place);
        Files.createDirectories(file.getParent());
        Files.writeString(file, words, StandardCharsets.UTF_8);
    }

    void copy(Path from, String place) throws IOException {
        write(place, Files.readString(from, StandardCharsets.UTF_8));
    }

    Ending run(String commands) throws IOException, InterruptedException {
        Process process = new ProcessBuilder("sh", "-ec", commands)
            .directory(home.toFile()).redirectErrorStream(true).start();
        process.getOutputStream().close();
        String printed = new String(process.getInputStream().readAllBytes(), StandardCharsets.UTF_8);
        return new Ending(process.waitFor(), printed);
    }

    void remove() throws IOException {
        Files.walkFileTree(home, new SimpleFileVisitor<>() {
            @Override
            public FileVisitResult visitFile(Path file, BasicFileAttributes facts) throws IOException {
                Files.delete(file);
                return FileVisitResult.CONTINUE;
            }

            @Override
            public FileVisitResult postVisitDirectory(Path directory, IOException fault) throws IOException {
                Files.delete(directory);
                return FileVisitResult.CONTINUE;
            }
        });
    }
}
