import java.io.IOException;
import java.io.UncheckedIOException;
import java.nio.file.Files;
import java.nio.file.Path;
import java.util.ArrayList;
import java.util.List;
import java.util.Set;
import java.util.TreeSet;
import java.util.regex.Matcher;
import java.util.regex.Pattern;

/** README.md, as its tests read it. */
final class Readme {
    private static final Path FILE = Path.of("README.md");
    private static final Pattern NAME = Pattern.compile("`([A-Z]\\w*)`");

    private Readme() {
    }

    private static List<String> lines() {
        try {
            return Files.readAllLines(FILE);
        } catch (IOException unread) {
            throw new UncheckedIOException(unread);
        }
    }

    /** The blocks of code that are marked as of this kind (java, sh), each as its lines. */
    static List<List<String>> blocks(String kind) {
        List<List<String>> blocks = new ArrayList<>();
        List<String> open = null;
        for (String line : lines()) {
            if (open != null && line.equals("```")) {
                blocks.add(open);
                open = null;
            } else if (open != null) {
                open.add(line);
            } else if (line.equals("```" + kind)) {
                open = new ArrayList<>();
            }
        }
        return blocks;
    }

    /** The names of classes that stand under a heading. */
    static Set<String> namesUnder(String heading) {
        Set<String> names = new TreeSet<>();
        boolean isUnder = false;
        for (String line : lines()) {
            isUnder = line.startsWith("## ") ? line.equals("## " + heading) : isUnder;
            Matcher name = NAME.matcher(line);
            while (isUnder && name.find()) {
                names.add(name.group(1));
            }
        }
        return names;
    }
}
