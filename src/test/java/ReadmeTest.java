import java.io.IOException;
import java.lang.reflect.InvocationTargetException;
import java.lang.reflect.Method;
import java.nio.file.Files;
import java.nio.file.Path;
import java.util.List;
import java.util.regex.Matcher;
import java.util.regex.Pattern;

/** The run of calls in README.md answers what stands behind each call. The argument is the project's directory. */
public final class ReadmeTest {
    private static final Due DUE = new Due("ReadmeTest");
    private static final Pattern CALL = Pattern.compile("x\\.(\\w+)\\(([^)]*)\\); +// (throws \\w+|[^\\s:]+): .*");

    public static void main(String[] args) throws IOException, IllegalAccessException {
        Path root = Path.of(args.length > 0 ? args[0] : ".");
        String page = Files.readString(root.resolve("README.md"));
        askAll(codeOf(page));
        try (var files = Files.list(root.resolve("src/test/java"))) {
            for (Path file : (Iterable<Path>) files::iterator) {
                String name = file.getFileName().toString().replace(".java", "");
                if (name.endsWith("Test")) {
                    DUE.is("README.md tells of " + name, page.contains(name), true);
                }
            }
        }
        DUE.is("README.md tells how the tests are run", page.contains("    .ci/run\n"), true);
        DUE.close();
    }

    private static List<String> codeOf(String page) {
        Matcher m = Pattern.compile("(?s)```java\n(.*?)```").matcher(page);
        DUE.is("README.md has a run of calls", m.find(), true);
        return m.group(1).lines().toList();
    }

    private static void askAll(List<String> lines) throws IllegalAccessException {
        DUE.is("its first line", lines.get(0), "LineChoice x = new LineChoice();");
        LineChoice x = new LineChoice();
        for (String line : lines.subList(1, lines.size())) {
            Matcher m = CALL.matcher(line);
            if (m.matches()) {
                DUE.is(line, answer(x, m.group(1), m.group(2)), m.group(3));
            } else {
                DUE.is(line, "no call with an answer", "one");
            }
        }
    }

    private static String answer(LineChoice x, String name, String told) throws IllegalAccessException {
        String[] texts = told.isEmpty() ? new String[0] : told.split(", ");
        Object[] given = new Object[texts.length];
        for (int i = 0; i < texts.length; i++) {
            given[i] = Integer.decode(texts[i]);
        }
        try {
            return String.valueOf(method(name).invoke(x, given));
        } catch (InvocationTargetException e) {
            return "throws " + e.getCause().getClass().getSimpleName();
        }
    }

    private static Method method(String name) {
        for (Method m : LineChoice.class.getMethods()) {
            if (m.getName().equals(name) && m.getDeclaringClass() == LineChoice.class) {
                return m;
            }
        }
        throw new IllegalStateException("README.md asks a call that is not there: " + name);
    }
}
