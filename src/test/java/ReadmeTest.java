import java.io.IOException;
import java.lang.reflect.Method;
import java.lang.reflect.Modifier;
import java.nio.file.DirectoryStream;
import java.nio.file.Files;
import java.nio.file.Path;
import java.util.HashMap;
import java.util.HashSet;
import java.util.List;
import java.util.Map;
import java.util.Set;
import java.util.regex.Matcher;
import java.util.regex.Pattern;

/** README.md: each call in it answers as is told there, and it names each method, each answer and each test. */
public final class ReadmeTest {
    private static final Path README = Path.of("README.md");
    private static final Path TESTS = Path.of("src/test/java");
    private static final Pattern CALL = Pattern.compile("bench\\.(\\w+)\\((.*)\\); +// (-?\\d+|[A-Z]+)\\b.*");
    private static final Pattern MAKING = Pattern.compile("(ScissorsBench )?bench = new ScissorsBench\\(\\);");
    private static final int MOST_CALLS = 512;

    private static final String[] CALLS = {"new ScissorsBench()", "corner(x, y)", "figure(k)", "area(k)", "begin(k)",
        "cut(ax, ay, bx, by)", "part(piece, ax, ay, dx, dy)", "slide(piece, dx, dy)", "half(piece, a, b)",
        "join(piece, other)", "aside(piece, on)", "back()", "undo()", "redo()", "isOf(piece, kind)",
        "about(piece, what)", "at(piece, i, what)", "over(piece, other)", "find(x, y)", "covers(k)", "sums()",
        "sum(i, what)", "shelve(k)", "fetch(k)", "third(k)", "count(what)"};

    private final Map<String, Method> methods = new HashMap<>();
    private final Set<String> made = new HashSet<>();
    private ScissorsBench bench;
    private int calls;

    public static void main(String[] args) throws IOException, ReflectiveOperationException {
        List<String> lines = Files.readAllLines(README);
        new ReadmeTest().repeatCalls(lines);
        namesAll(String.join("\n", lines));
        Due.end();
    }

    private ReadmeTest() {
        for (Method method : ScissorsBench.class.getDeclaredMethods()) {
            if (Modifier.isPublic(method.getModifiers())) {
                methods.put(method.getName(), method);
            }
        }
    }

    private void repeatCalls(List<String> lines) throws ReflectiveOperationException {
        boolean inside = false;
        for (String line : lines) {
            if (line.startsWith("```")) {
                inside = line.equals("```java");
            } else if (inside) {
                repeat(line);
            }
        }
        due("README.md makes calls of all methods", made.equals(methods.keySet()));
    }

    private void repeat(String line) throws ReflectiveOperationException {
        Matcher call = CALL.matcher(line);
        if (MAKING.matcher(line).matches()) {
            bench = new ScissorsBench();
            calls = 0;
        } else if (bench != null && call.matches() && methods.containsKey(call.group(1))) {
            made.add(call.group(1));
            calls++;
            Object got = methods.get(call.group(1)).invoke(bench, numbers(call.group(2)));
            Due.due("README.md: " + line, (Long) got, answer(call.group(3)));
            due("README.md, not behind the last call of a bench: " + line, calls <= MOST_CALLS);
        } else {
            due("README.md, a call with its answer: " + line, false);
        }
    }

    private static Object[] numbers(String told) {
        String[] parts = told.isEmpty() ? new String[0] : told.split(", ");
        Object[] numbers = new Object[parts.length];
        for (int i = 0; i < parts.length; i++) {
            numbers[i] = Integer.valueOf(parts[i]);
        }
        return numbers;
    }

    private static long answer(String told) {
        switch (told) {
            case "BAD":
                return Due.BAD;
            case "NO":
                return Due.NO;
            case "FULL":
                return Due.FULL;
            case "OFF":
                return Due.OFF;
            case "NONE":
                return Due.NONE;
            default:
                return Long.parseLong(told);
        }
    }

    private static void namesAll(String readme) throws IOException {
        for (String call : CALLS) {
            due("README.md has a row for " + call, readme.contains("| `" + call + "` | "));
        }
        for (long refused = Due.BAD; refused >= Due.NONE; refused--) {
            due("README.md has a row for " + refused,
                readme.contains("| `" + Due.told(refused) + "` | " + refused + " | "));
        }
        int tests = 0;
        try (DirectoryStream<Path> files = Files.newDirectoryStream(TESTS, "*Test.java")) {
            for (Path file : files) {
                String name = file.getFileName().toString().replace(".java", "");
                due("README.md has a row for " + name, readme.contains("| `" + name + "` | "));
                tests++;
            }
        }
        Matcher rows = Pattern.compile("\\| `\\w+Test` \\| ").matcher(readme);
        Due.due("README.md's rows for tests", rows.results().count(), tests);
    }

    private static void due(String told, boolean holds) {
        Due.due(told, holds ? 1 : 0, 1);
    }
}
