import java.io.IOException;
import java.lang.reflect.Method;
import java.lang.reflect.Modifier;
import java.nio.file.DirectoryStream;
import java.nio.file.Files;
import java.nio.file.Path;
import java.util.Arrays;
import java.util.regex.Matcher;
import java.util.regex.Pattern;

/**
 * What README.md tells is so: its example answers what stands behind each call, and it names every call and
 * every test. The first argument is the path of the class's source, from which the project's root is found.
 */
public final class ReadmeTest {
    private static final Pattern EXAMPLE = Pattern.compile("(?s)```java\n(.*?)```");
    private static final Pattern CALL = Pattern.compile("archive\\.(\\w+)\\(([-\\d, ]*)\\);\\s+// (-?\\d+): .+");

    public static void main(String[] args) throws IOException, ReflectiveOperationException {
        Path root = Path.of(args[0]).toAbsolutePath().getParent().getParent().getParent().getParent();
        String readme = Files.readString(root.resolve("README.md"));
        example(readme);
        callsNamed(readme);
        testsNamed(readme, root.resolve("src/test/java"));
        Check.holds("how to run the tests is told", readme.contains("```sh\n.ci/run\n```"));
        Check.finish();
    }

    private static void example(String readme) throws ReflectiveOperationException {
        Matcher example = EXAMPLE.matcher(readme);
        boolean found = example.find();
        Check.holds("there is an example", found);
        if (!found) {
            return;
        }
        String[] rows = example.group(1).split("\n");
        Check.holds("the example makes an archive first",
            rows[0].equals("LineArchive archive = new LineArchive();"));
        LineArchive archive = new LineArchive();
        for (int row = 1; row < rows.length; row++) {
            if (!rows[row].isEmpty()) {
                exampleRow(archive, rows[row]);
            }
        }
    }

    private static void exampleRow(LineArchive archive, String row) throws ReflectiveOperationException {
        Matcher call = CALL.matcher(row);
        boolean isCall = call.matches();
        Check.holds("a row of the example is a call and its answer: " + row, isCall);
        if (isCall) {
            int got = answer(archive, call.group(1), call.group(2));
            Check.due("README.md: " + row, got, Integer.parseInt(call.group(3)));
        }
    }

    private static int answer(LineArchive archive, String name, String arguments) throws ReflectiveOperationException {
        Object[] values = arguments.isEmpty() ? new Object[0]
            : Arrays.stream(arguments.split(", ")).map(Integer::valueOf).toArray();
        Class<?>[] types = new Class<?>[values.length];
        Arrays.fill(types, int.class);
        return (Integer) LineArchive.class.getMethod(name, types).invoke(archive, values);
    }

    private static void callsNamed(String readme) {
        for (Method method : LineArchive.class.getDeclaredMethods()) {
            if (Modifier.isPublic(method.getModifiers())) {
                Check.holds(method.getName() + " stands in a table",
                    Pattern.compile("(?m)^\\|.*`" + method.getName() + "\\(").matcher(readme).find());
            }
        }
    }

    private static void testsNamed(String readme, Path tests) throws IOException {
        try (DirectoryStream<Path> files = Files.newDirectoryStream(tests, "*.java")) {
            for (Path file : files) {
                String name = file.getFileName().toString().replace(".java", "");
                Check.holds("the test " + name + " is named", readme.contains("`" + name + "`"));
            }
        }
    }
}
