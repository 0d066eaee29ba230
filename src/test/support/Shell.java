import java.io.IOException;
import java.io.UncheckedIOException;
import java.nio.file.Files;
import java.nio.file.Path;
import java.util.Comparator;
import java.util.List;
import java.util.stream.Stream;

/** Runs commands as a reader of README.md would, in a folder of files that is gone when it is closed. */
final class Shell implements AutoCloseable {
    final Path folder;

    Shell() {
        try {
            folder = Files.createTempDirectory("shell");
        } catch (IOException unmade) {
            throw new UncheckedIOException(unmade);
        }
    }

    /** How commands ended, and all that they wrote. */
    static final class Outcome {
        final int code;
        final List<String> told;

        Outcome(int code, List<String> told) {
            this.code = code;
            this.told = told;
        }
    }

    /** What the commands make with mktemp goes with this folder, too. */
    Outcome run(Path from, String commands) {
        ProcessBuilder builder = new ProcessBuilder("bash", "-c", commands).directory(from.toFile());
        builder.environment().put("TMPDIR", folder.toString());
        builder.redirectErrorStream(true);
        try {
            Process process = builder.start();
            process.getOutputStream().close();
            List<String> told = new String(process.getInputStream().readAllBytes()).lines().toList();
            return new Outcome(process.waitFor(), told);
        } catch (IOException failed) {
            throw new UncheckedIOException(failed);
        } catch (InterruptedException stopped) {
            throw new IllegalStateException(stopped);
        }
    }

    Path write(String name, String content) {
        Path file = folder.resolve(name);
        try {
            Files.createDirectories(file.getParent());
            return Files.writeString(file, content);
        } catch (IOException unwritten) {
            throw new UncheckedIOException(unwritten);
        }
    }

    @Override
    public void close() {
        try (Stream<Path> files = Files.walk(folder)) {
            for (Path file : files.sorted(Comparator.reverseOrder()).toList()) {
                Files.delete(file);
            }
        } catch (IOException left) {
            throw new UncheckedIOException(left);
        }
    }
}
