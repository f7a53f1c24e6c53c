import java.io.File;
import java.io.IOException;
import java.lang.reflect.Method;
import java.lang.reflect.Modifier;
import java.nio.file.Files;
import java.nio.file.Path;
import java.util.ArrayList;
import java.util.Arrays;
import java.util.List;
import java.util.Set;
import java.util.TreeSet;
import java.util.regex.Matcher;
import java.util.regex.Pattern;

/** What README.md says is so: the answers of its example, and the methods and tests that it names. */
public final class ChunkVersionsReadme {
    private static final Path README = Path.of("README.md");
    private static final String FIRST_LINE = "ChunkVersions table = new ChunkVersions();";
    private static final Pattern CALL = Pattern.compile("table\\.(\\w+)\\(([-\\d, ]*)\\); +// (-?\\d+)(: .+)?");
    private static final Pattern TEST = Pattern.compile("- `(ChunkVersions\\w+)`: .+");

    private static int wrong = 0;
    private static int answersGiven = 0;

    private static void check(boolean holds, String what) {
        if (!holds) {
            wrong++;
            System.out.println(what);
        }
    }

    /** The lines of the blocks that README.md marks as Java. */
    private static List<String> example(List<String> lines) {
        List<String> found = new ArrayList<>();
        boolean inside = false;
        for (String line : lines) {
            if (line.startsWith("```")) {
                inside = line.equals("```java");
            } else if (inside && !line.isBlank()) {
                found.add(line);
            }
        }
        return found;
    }

    private static Object[] numbers(String list) {
        List<Object> found = new ArrayList<>();
        for (String number : list.split(",")) {
            if (!number.isBlank()) {
                found.add(Integer.parseInt(number.trim()));
            }
        }
        return found.toArray();
    }

    private static int answer(ChunkVersions table, String method, Object[] args) throws ReflectiveOperationException {
        Class<?>[] types = new Class<?>[args.length];
        Arrays.fill(types, int.class);
        return (Integer) ChunkVersions.class.getMethod(method, types).invoke(table, args);
    }

    private static void checkExample(List<String> lines) throws ReflectiveOperationException {
        check(!lines.isEmpty() && lines.get(0).equals(FIRST_LINE), "the example does not begin with: " + FIRST_LINE);
        ChunkVersions table = new ChunkVersions();
        for (String line : lines.subList(Math.min(1, lines.size()), lines.size())) {
            Matcher call = CALL.matcher(line);
            // A line that can't be read would else be a line that is never checked.
            if (!call.matches()) {
                check(false, "not a call with its answer: " + line);
                continue;
            }
            int got = answer(table, call.group(1), numbers(call.group(2)));
            answersGiven++;
            check(got == Integer.parseInt(call.group(3)), "answered " + got + ": " + line);
        }
        check(answersGiven > 0, "the example has no calls");
    }

    private static void checkMethods(List<String> lines) {
        String text = String.join("\n", lines);
        for (Method method : ChunkVersions.class.getDeclaredMethods()) {
            check(!Modifier.isPublic(method.getModifiers()) || text.contains("`" + method.getName() + "`"),
                "README.md does not name the method " + method.getName());
        }
    }

    private static void checkTests(List<String> lines) {
        Set<String> named = new TreeSet<>();
        for (String line : lines) {
            Matcher test = TEST.matcher(line);
            if (test.matches()) {
                named.add(test.group(1) + ".java");
            }
        }
        String[] files = new File("src/test/java").list((folder, name) -> name.endsWith(".java"));
        Set<String> there = files == null ? Set.of() : new TreeSet<>(List.of(files));
        check(named.equals(there), "README.md names the tests " + named + ", and there are " + there);
        check(Files.isExecutable(Path.of(".ci/run")), ".ci/run can't be run as README.md says");
    }

    public static void main(String[] args) throws IOException, ReflectiveOperationException {
        if (!Files.isReadable(README)) {
            System.out.println("README.md is not here: start this test in the project's folder");
            System.exit(1);
        }
        List<String> lines = Files.readAllLines(README);
        checkExample(example(lines));
        checkMethods(lines);
        checkTests(lines);
        System.out.println(wrong == 0 ? "README.md is right, with its " + answersGiven + " answers"
            : wrong + " things that README.md says are not so");
        if (wrong != 0) {
            System.exit(1);
        }
    }
}
