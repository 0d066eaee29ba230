import java.io.IOException;
import java.lang.reflect.Array;
import java.lang.reflect.Constructor;
import java.lang.reflect.Field;
import java.lang.reflect.Method;
import java.lang.reflect.Modifier;
import java.nio.file.Files;
import java.nio.file.Path;
import java.util.Arrays;
import java.util.IdentityHashMap;
import java.util.List;
import java.util.Map;
import java.util.TreeSet;
import java.util.regex.Pattern;

/** What can be seen of the class from outside: its face, the rules of LANGUAGE.md, and the room that it takes. */
public final class Rules {
    private static final Path SOURCE = Path.of("src/main/java/SuffixRows.java");
    private static final List<String> FACE = List.of(
        "int add(int,int,int,int,int)", "int cut(int,int)", "int build()", "int sign(int)", "int text(int,int)",
        "int at(int)", "int rank(int)", "int beside(int)", "int common(int,int)", "int copy(int,int)",
        "int pattern(int,int,int,int)", "int wipe()", "int find(int)", "int where(int)", "long different()",
        "int repeats(int,int)", "int longest(int,int)", "int shared(int,int)", "int before(int)", "int back(int)",
        "int steps(int,int)", "int swap(int,int)", "int tell(int,int)", "int judge()");
    /** One run's room is 7.3 million elements and 600,000 objects; a run of 512 new objects is to fit. */
    private static final long MOST_ELEMENTS = 7_300_000 / 512;
    private static final long MOST_OBJECTS = 600_000 / 512;
    private static int looks = 0;
    private static int wrong = 0;

    private static void look(boolean right, String fault) {
        looks++;
        if (!right) {
            wrong++;
            System.out.println(fault);
        }
    }

    public static void main(String[] args) throws IOException, IllegalAccessException {
        face();
        classes();
        source(Files.readAllLines(SOURCE));
        room();
        System.out.println(looks + " looks, " + wrong + " faults");
        if (wrong != 0) {
            System.exit(1);
        }
    }

    private static void face() throws IllegalAccessException {
        look(Modifier.isPublic(SuffixRows.class.getModifiers()), "the class is not public");
        look(Modifier.isFinal(SuffixRows.class.getModifiers()), "the class is not final");
        TreeSet<String> seen = new TreeSet<>();
        for (Method method : SuffixRows.class.getDeclaredMethods()) {
            if (!Modifier.isPrivate(method.getModifiers())) {
                seen.add(told(method));
                look(Modifier.isPublic(method.getModifiers()), "neither public nor private: " + method);
                look(!Modifier.isStatic(method.getModifiers()), "static: " + method);
            }
        }
        look(seen.equals(new TreeSet<>(FACE)), "the face is " + seen);
        Constructor<?>[] constructors = SuffixRows.class.getDeclaredConstructors();
        look(constructors.length == 1, "more than one constructor");
        look(constructors[0].getParameterCount() == 0, "the constructor takes something");
        look(Modifier.isPublic(constructors[0].getModifiers()), "the constructor is not public");
        for (Field field : SuffixRows.class.getDeclaredFields()) {
            boolean isNone = field.getName().equals("NONE");
            look(isNone || Modifier.isPrivate(field.getModifiers()), "not private: " + field);
            if (isNone) {
                look(field.toString().equals("public static final int SuffixRows.NONE"), "not as asked: " + field);
                look(field.getInt(null) == -1, "NONE is not -1");
            }
        }
    }

    private static String told(Method method) {
        StringBuilder parameters = new StringBuilder();
        for (Class<?> type : method.getParameterTypes()) {
            parameters.append(parameters.length() == 0 ? "" : ",").append(type.getName());
        }
        return method.getReturnType().getName() + " " + method.getName() + "(" + parameters + ")";
    }

    private static void classes() {
        TreeSet<String> publicNames = new TreeSet<>();
        for (String method : FACE) {
            publicNames.add(method.substring(method.indexOf(' ') + 1, method.indexOf('(')));
        }
        Class<?>[] nested = SuffixRows.class.getDeclaredClasses();
        look(nested.length < 12, "too many classes");
        oneClass(SuffixRows.class, publicNames);
        for (Class<?> one : nested) {
            look(Modifier.isStatic(one.getModifiers()), "not static: " + one);
            look(!Modifier.isPublic(one.getModifiers()), "public: " + one);
            look(!Modifier.isProtected(one.getModifiers()), "protected: " + one);
            oneClass(one, publicNames);
        }
    }

    private static void oneClass(Class<?> one, TreeSet<String> publicNames) {
        int fields = 0;
        for (Field field : one.getDeclaredFields()) {
            boolean isStatic = Modifier.isStatic(field.getModifiers());
            fields += isStatic ? 0 : 1;
            look(!isStatic || Modifier.isFinal(field.getModifiers()), "static, not final: " + field);
        }
        look(fields <= 20, "too many fields: " + one);
        for (Method method : one.getDeclaredMethods()) {
            look(method.getParameterCount() <= 7, "too many parameters: " + method);
            boolean isFace = one == SuffixRows.class && Modifier.isPublic(method.getModifiers());
            look(isFace || !publicNames.contains(method.getName()), "bears a public name: " + method);
        }
    }

    private static void source(List<String> lines) {
        Pattern banned = Pattern.compile(
            "\\b(throw|throws|try|catch|synchronized|assert|package|Exact|var)\\b|->|::|\"");
        int methodStart = -1;
        for (int n = 0; n < lines.size(); n++) {
            String line = lines.get(n);
            boolean isComment = line.trim().matches("(/\\*|\\*|//).*");
            String place = "line " + (n + 1) + ": " + line.trim();
            look(line.length() <= 120, "too long, " + place);
            look(isComment || !banned.matcher(line).find(), "not in the language, " + place);
            boolean isImport = line.startsWith("import ");
            look(!isImport || line.equals("import java.util.Arrays;"), "not in the library, " + place);
            boolean makes = !isComment && line.matches(".*\\bnew\\b.*");
            look(!makes || isMadeWithTheObject(line), "made by a call, " + place);
            if (line.matches(" {4}( {4})?\\w.*\\) \\{")) {
                methodStart = n;
            } else if (line.matches(" {4}( {4})?}") && methodStart >= 0) {
                look(n - methodStart < 60, "a long method ends at " + place);
                methodStart = -1;
            }
        }
    }

    private static boolean isMadeWithTheObject(String line) {
        return line.matches(" {8}(private )?final .* = new .*;") || line.matches(" {8}\\w+ = new \\w+\\(.*\\);");
    }

    /** Counts what one object holds; since calls make nothing, it holds the same behind them. */
    private static void room() throws IllegalAccessException {
        SuffixRows x = new SuffixRows();
        long[] atFirst = count(x);
        System.out.println("one object: " + atFirst[0] + " objects and arrays, " + atFirst[1] + " fields and elements");
        look(atFirst[0] <= MOST_OBJECTS, "too many objects");
        look(atFirst[1] <= MOST_ELEMENTS, "too many elements");
        for (int k = 0; k < 100; k++) {
            x.add(k % 8, k, k, k, k);
        }
        x.build();
        x.pattern(1, 1, 1, 1);
        x.find(2);
        x.longest(2, 1);
        x.judge();
        look(Arrays.equals(atFirst, count(x)), "the object grew");
    }

    private static long[] count(Object root) throws IllegalAccessException {
        Map<Object, Boolean> seen = new IdentityHashMap<>();
        long elements = countFrom(root, seen);
        return new long[] {seen.size(), elements};
    }

    private static long countFrom(Object one, Map<Object, Boolean> seen) throws IllegalAccessException {
        if (one == null || seen.put(one, true) != null) {
            return 0;
        }
        if (one.getClass().isArray()) {
            return Array.getLength(one);
        }
        long elements = 0;
        for (Field field : one.getClass().getDeclaredFields()) {
            if (!Modifier.isStatic(field.getModifiers())) {
                elements++;
                field.setAccessible(true);
                elements += field.getType().isPrimitive() ? 0 : countFrom(field.get(one), seen);
            }
        }
        return elements;
    }
}
