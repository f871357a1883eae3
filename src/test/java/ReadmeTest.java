import java.io.IOException;
import java.lang.reflect.Method;
import java.lang.reflect.Modifier;
import java.nio.file.DirectoryStream;
import java.nio.file.Files;
import java.nio.file.Path;
import java.util.regex.Matcher;
import java.util.regex.Pattern;

/** What README.md says holds: its example, and the methods and tests that it names. */
public final class ReadmeTest {
    // A line of the example: g.name(arguments);  // answer: ..
    private static final Pattern EXAMPLE =
            Pattern.compile("(?m)^g\\.(\\w+)\\(([-\\d, ]*)\\);\\s*// ([^:]*):.*$");

    public static void main(String[] args) throws Exception {
        // .ci/run starts each test in the project's folder.
        String readme = Files.readString(Path.of("README.md"));
        Due.sentence("README.md: the answers of the example");
        exampleHolds(readme);
        Due.sentence("README.md: names each method, and has each in the example");
        namesEachMethod(readme);
        Due.sentence("README.md: names each test, and how to run them");
        namesEachTest(readme);
        Due.end();
    }

    private static void exampleHolds(String readme) throws ReflectiveOperationException {
        JumpGenerator g = new JumpGenerator();
        Matcher line = EXAMPLE.matcher(readme);
        int lines = 0;
        while (line.find()) {
            Object got = call(g, line.group(1), line.group(2));
            boolean asSaid = got.toString().equals(line.group(3));
            Due.is(line.group() + " (answered " + got + ") as said", asSaid, true);
            lines++;
        }
        int written = readme.split("(?m)^g\\.", -1).length - 1;
        Due.is("lines of the example that were made", lines, written);
    }

    private static Object call(JumpGenerator g, String name, String list)
            throws ReflectiveOperationException {
        String[] numbers = list.isBlank() ? new String[0] : list.trim().split(",\\s*");
        Class<?>[] types = new Class<?>[numbers.length];
        Object[] arguments = new Object[numbers.length];
        for (int i = 0; i < numbers.length; i++) {
            types[i] = int.class;
            arguments[i] = Integer.valueOf(numbers[i]);
        }
        return JumpGenerator.class.getMethod(name, types).invoke(g, arguments);
    }

    private static void namesEachMethod(String readme) {
        for (Method method : JumpGenerator.class.getDeclaredMethods()) {
            if (Modifier.isPublic(method.getModifiers())) {
                String name = method.getName();
                Due.is("table: " + name, readme.contains("\n| `" + name + "("), true);
                Due.is("example: " + name, readme.contains("\ng." + name + "("), true);
            }
        }
    }

    private static void namesEachTest(String readme) throws IOException {
        Due.is(".ci/run", readme.contains("\n.ci/run\n"), true);
        Path tests = Path.of("src/test/java");
        try (DirectoryStream<Path> files = Files.newDirectoryStream(tests, "*.java")) {
            for (Path file : files) {
                String name = file.getFileName().toString().replace(".java", "");
                Due.is("named: " + name, readme.contains("`" + name + "`"), true);
            }
        }
        Matcher named = Pattern.compile("`(\\w+Test)`").matcher(readme);
        while (named.find()) {
            Path file = tests.resolve(named.group(1) + ".java");
            Due.is("there is " + file, Files.exists(file), true);
        }
    }
}
