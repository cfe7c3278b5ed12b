import java.io.IOException;
import java.lang.reflect.Method;
import java.lang.reflect.Modifier;
import java.nio.file.DirectoryStream;
import java.nio.file.Files;
import java.nio.file.Path;
import java.util.Arrays;
import java.util.Map;
import java.util.regex.Matcher;
import java.util.regex.Pattern;

/** README.md as it stands: each row of its example answers what it says; it names every call and every test. */
public final class ReadmeTest {
    private static final Pattern TEXT = Pattern.compile("String text = \"([^\"]*)\";");
    private static final Pattern ROW = Pattern.compile("(?m)^ring\\.(\\w+)\\(([-\\d, ]*)\\);\\s*// (-?\\d+|[A-Z]+)\\b.*$");
    private static final Map<String, Integer> NAMED = Map.of("BAD", NumberedRings.BAD, "STATE", NumberedRings.STATE,
        "FULL", NumberedRings.FULL, "NONE", NumberedRings.NONE);

    public static void main(String[] args) throws IOException, ReflectiveOperationException {
        String readme = Files.readString(Path.of("README.md"));
        example(readme);
        everyCall(readme);
        everyTest(readme);
        Checks.end();
    }

    private static void example(String readme) throws ReflectiveOperationException {
        Matcher text = TEXT.matcher(readme);
        if (!text.find()) {
            Checks.fail("README.md: the example has no text");
            return;
        }
        NumberedRings ring = new NumberedRings();
        Checks.typeAll(ring, text.group(1));
        Matcher row = ROW.matcher(readme);
        int rows = 0;
        while (row.find()) {
            int due = NAMED.containsKey(row.group(3)) ? NAMED.get(row.group(3)) : Integer.parseInt(row.group(3));
            Checks.due("README.md: " + row.group(1) + "(" + row.group(2) + ")", answer(ring, row.group(1), row.group(2)), due);
            rows++;
        }
        long told = readme.lines().filter(line -> line.startsWith("ring.")).count();
        Checks.due("README.md: rows of the example that can be read", rows, told);
    }

    private static int answer(NumberedRings ring, String name, String numbers) throws ReflectiveOperationException {
        Object[] arguments = Arrays.stream(numbers.split(", *")).filter(n -> !n.isEmpty()).map(Integer::valueOf).toArray();
        Class<?>[] types = new Class<?>[arguments.length];
        Arrays.fill(types, int.class);
        return (int) NumberedRings.class.getMethod(name, types).invoke(ring, arguments);
    }

    private static void everyCall(String readme) {
        for (Method method : NumberedRings.class.getDeclaredMethods()) {
            if (Modifier.isPublic(method.getModifiers()) && !readme.contains("`" + method.getName() + "`")) {
                Checks.fail("README.md does not name the call " + method.getName());
            }
        }
    }

    private static void everyTest(String readme) throws IOException {
        try (DirectoryStream<Path> tests = Files.newDirectoryStream(Path.of("src/test/java"), "*Test.java")) {
            for (Path test : tests) {
                String name = test.getFileName().toString().replace(".java", "");
                if (!Pattern.compile("\\b" + name + "\\b").matcher(readme).find()) {
                    Checks.fail("README.md does not name the test " + name);
                }
            }
        }
    }
}
