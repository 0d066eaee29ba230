import java.io.IOException;
import java.io.UncheckedIOException;
import java.nio.file.Files;
import java.nio.file.Path;
import java.util.HashMap;
import java.util.List;
import java.util.Map;
import java.util.Set;
import java.util.TreeSet;
import java.util.stream.Stream;

/** What README.md shows of the tests: which there are, how one is run, and what .ci/run makes of all. */
public final class ReadmeTests {
    private static final Path SCRIPT = Path.of(".ci/run");
    private static final String CLASS = "project/src/main/java/SuffixRows.java";
    private static final String SUPPORT = "project/src/test/support/Support.java";
    private static final String OWN = "project/src/test/java/Own.java";
    private static final String SHARED = "shared/tests/Shared.java";
    private static final String NO_JAVA = "no Java";

    private ReadmeTests() {
    }

    public static void main(String[] args) {
        Sentences.of("the tests that README.md names are those that there are", ReadmeTests::testsAreNamed);
        Sentences.of("One of them", ReadmeTests::oneIsRun);
        Sentences.of("runs every test under src/test/java and ../shared/tests, tells how many passed",
            ReadmeTests::allAreRun);
        Sentences.of("fails if one fails", ReadmeTests::aFailureFails);
        Sentences.of("if the class or a test does not compile", ReadmeTests::whatIsNoJavaFails);
        Sentences.of("or if a folder has no test", ReadmeTests::anEmptyFolderFails);
        Sentences.of("It is run in the project's folder", ReadmeTests::testsRunInTheFolder);
        Sentences.close();
    }

    private static String shown(int block) {
        return String.join("\n", Readme.blocks("sh").get(block));
    }

    private static void testsAreNamed() {
        Set<String> files = new TreeSet<>();
        for (String folder : List.of("src/test/java", "src/test/support")) {
            try (Stream<Path> all = Files.list(Path.of(folder))) {
                all.forEach(file -> files.add(file.getFileName().toString().replace(".java", "")));
            } catch (IOException unread) {
                throw new UncheckedIOException(unread);
            }
        }
        Set<String> named = Readme.namesUnder("Tests");
        Sentences.holds("named are " + named + ", there are " + files, named.equals(files));
    }

    private static void oneIsRun() {
        try (Shell shell = new Shell()) {
            Shell.Outcome outcome = shell.run(Path.of("."), "set -e\n" + shown(1));
            String last = outcome.told.isEmpty() ? "" : outcome.told.get(outcome.told.size() - 1);
            Sentences.due(shown(1), outcome.code, 0);
            Sentences.holds("it tells how many answers it looked at: " + last, last.matches("\\d+ answers .*"));
        }
    }

    private static void allAreRun() {
        Shell.Outcome outcome = runAll(Map.of());
        Sentences.due("the exit code", outcome.code, 0);
        told(outcome, "Own is run", "Shared is run", "2 passed, 0 failed");
    }

    private static void aFailureFails() {
        for (String fault : List.of("System.exit(1);", "throw new IllegalStateException();")) {
            told(failed(Map.of(OWN, test("Own", fault))), "Shared is run", "1 passed, 1 failed");
            told(failed(Map.of(SHARED, test("Shared", fault))), "Own is run", "1 passed, 1 failed");
        }
    }

    private static void whatIsNoJavaFails() {
        told(failed(Map.of(OWN, NO_JAVA)), "Shared is run", "1 passed, 1 failed");
        told(failed(Map.of(SHARED, NO_JAVA)), "Own is run", "1 passed, 1 failed");
        failed(Map.of(SUPPORT, NO_JAVA));
        failed(Map.of(CLASS, NO_JAVA));
    }

    private static void anEmptyFolderFails() {
        told(failed(Map.of(OWN, "")), "Shared is run", "1 passed, 1 failed");
        told(failed(Map.of(SHARED, "")), "Own is run", "1 passed, 1 failed");
    }

    private static void testsRunInTheFolder() {
        String look = "if (!java.nio.file.Files.exists(java.nio.file.Path.of(\".ci/run\"))) { System.exit(1); }";
        try (Shell shell = new Shell()) {
            lay(shell, Map.of(OWN, test("Own", look), SHARED, test("Shared", look)));
            Sentences.due("from its folder", shell.run(shell.folder.resolve("project"), shown(0)).code, 0);
            Sentences.due("from another", shell.run(shell.folder, "project/" + shown(0)).code, 0);
        }
    }

    private static Shell.Outcome failed(Map<String, String> changes) {
        Shell.Outcome outcome = runAll(changes);
        Sentences.holds("it fails with " + changes, outcome.code != 0);
        return outcome;
    }

    private static void told(Shell.Outcome outcome, String... lines) {
        for (String line : lines) {
            Sentences.holds("tells " + line + ": " + outcome.told, outcome.told.contains(line));
        }
    }

    private static Shell.Outcome runAll(Map<String, String> changes) {
        try (Shell shell = new Shell()) {
            lay(shell, changes);
            return shell.run(shell.folder.resolve("project"), shown(0));
        }
    }

    /** A project so small that its tests end at once, and the script of this one; no file where there is no content. */
    private static void lay(Shell shell, Map<String, String> changes) {
        Map<String, String> files = new HashMap<>(Map.of(
            CLASS, "public final class SuffixRows { }", SUPPORT, "final class Support { }",
            OWN, test("Own", "new Support();"), SHARED, test("Shared", "")));
        files.putAll(changes);
        files.values().removeIf(String::isEmpty);
        files.forEach(shell::write);
        try {
            Path script = shell.write("project/.ci/run", Files.readString(SCRIPT));
            Files.setPosixFilePermissions(script, Files.getPosixFilePermissions(SCRIPT));
        } catch (IOException unmade) {
            throw new UncheckedIOException(unmade);
        }
    }

    private static String test(String name, String body) {
        return "public final class " + name + " { public static void main(String[] args) { new SuffixRows(); "
            + "System.out.println(\"" + name + " is run\"); " + body + " } }";
    }
}
