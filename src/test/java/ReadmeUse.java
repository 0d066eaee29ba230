import java.lang.reflect.Method;
import java.lang.reflect.Modifier;
import java.nio.file.Path;
import java.util.ArrayList;
import java.util.List;
import java.util.Set;
import java.util.TreeSet;
import java.util.regex.Matcher;
import java.util.regex.Pattern;

/** What README.md shows of the use of the class: the same calls are made, and answered as it says. */
public final class ReadmeUse {
    private static final String NEW = "SuffixRows x = new SuffixRows();";
    /** A call, and behind it its answer alone, or with words that say what it is. */
    private static final Pattern SHOWN = Pattern.compile("(x\\.(\\w+)\\(.*?\\)); +// (-?\\d+|NONE)(: .+)?");
    private static final int MOST_CALLS = 512;

    private ReadmeUse() {
    }

    public static void main(String[] args) {
        Sentences.of("Behind each call stands its answer", ReadmeUse::answersAreSo);
        Sentences.of("README.md shows each call of the public face", ReadmeUse::eachCallIsShown);
        Sentences.of("An object is good for 512 calls", ReadmeUse::callsAreNotTooMany);
        Sentences.of("How it is made names the classes inside", ReadmeUse::classesAreNamed);
        Sentences.close();
    }

    private static List<String> code() {
        List<List<String>> blocks = Readme.blocks("java");
        if (blocks.size() != 1) {
            throw new IllegalStateException("README.md has " + blocks.size() + " blocks of Java, not one");
        }
        return blocks.get(0);
    }

    private static List<Matcher> calls() {
        List<Matcher> calls = new ArrayList<>();
        for (String line : code()) {
            Matcher call = SHOWN.matcher(line);
            if (call.matches()) {
                calls.add(call);
            } else {
                boolean hasNoAnswer = line.isEmpty() || line.startsWith("//") || line.equals(NEW);
                Sentences.holds("a call with its answer: " + line, hasNoAnswer);
            }
        }
        return calls;
    }

    /** The code as it is shown, but that each call's answer is printed; the launcher compiles it. */
    private static void answersAreSo() {
        StringBuilder program = new StringBuilder("final class Shown {\n");
        program.append("    public static void main(String[] args) {\n");
        for (String line : code()) {
            Matcher call = SHOWN.matcher(line);
            program.append(call.matches() ? "System.out.println(" + call.group(1) + ");" : line).append('\n');
        }
        program.append("    }\n}\n");
        try (Shell shell = new Shell()) {
            Path file = shell.write("Shown.java", program.toString());
            String command = "java -cp '" + System.getProperty("java.class.path") + "' '" + file + "'";
            Shell.Outcome outcome = shell.run(Path.of("."), command);
            Sentences.holds("it is Java: " + outcome.told, outcome.code == 0);
            if (outcome.code == 0) {
                compare(outcome.told, calls());
            }
        }
    }

    private static void compare(List<String> answers, List<Matcher> calls) {
        Sentences.due("calls of " + NEW, answers.size(), calls.size());
        for (int k = 0; k < Math.min(answers.size(), calls.size()); k++) {
            String want = calls.get(k).group(3).equals("NONE") ? "-1" : calls.get(k).group(3);
            Sentences.due(calls.get(k).group(1), Long.parseLong(answers.get(k)), Long.parseLong(want));
        }
    }

    private static void eachCallIsShown() {
        Set<String> shown = new TreeSet<>();
        for (Matcher call : calls()) {
            shown.add(call.group(2));
        }
        for (Method method : SuffixRows.class.getDeclaredMethods()) {
            if (Modifier.isPublic(method.getModifiers())) {
                Sentences.holds("README.md shows " + method.getName(), shown.contains(method.getName()));
            }
        }
    }

    private static void callsAreNotTooMany() {
        Sentences.holds("calls of one object", calls().size() <= MOST_CALLS);
    }

    private static void classesAreNamed() {
        Set<String> inside = new TreeSet<>();
        for (Class<?> one : SuffixRows.class.getDeclaredClasses()) {
            inside.add(one.getSimpleName());
        }
        Set<String> named = Readme.namesUnder("How it is made");
        Sentences.holds("named are " + named + ", there are " + inside, named.equals(inside));
    }
}
