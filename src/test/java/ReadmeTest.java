import java.io.IOException;
import java.lang.reflect.InvocationTargetException;
import java.lang.reflect.Method;
import java.lang.reflect.Modifier;
import java.nio.file.Files;
import java.nio.file.Path;
import java.util.Arrays;
import java.util.TreeSet;
import java.util.regex.Matcher;
import java.util.regex.Pattern;
import java.util.stream.Collectors;
import java.util.stream.Stream;

/** README.md: each call that it shows answers what it says, and it names every call and every test. */
public final class ReadmeTest {
    private static final Pattern CALL = Pattern.compile("x\\.(\\w+)\\(([^)]*)\\);\\s*// (Long\\.MIN_VALUE \\+ )?(-?\\d+)");

    public static void main(String[] args) throws IOException, ReflectiveOperationException {
        String page = Files.readString(Path.of("README.md"));
        example(page);
        calls(page);
        tests(page);
        Check.end("ReadmeTest");
    }

    private static void example(String page) throws ReflectiveOperationException {
        int from = page.indexOf("```java");
        int to = page.indexOf("```", from + 1);
        Check.holds("there is an example", from >= 0 && to > from);
        PeriodGates x = new PeriodGates();
        for (String line : page.substring(Math.max(0, from), Math.max(0, to)).split("\n")) {
            Matcher m = CALL.matcher(line);
            if (m.find()) {
                long want = (m.group(3) == null ? 0 : Long.MIN_VALUE) + Long.parseLong(m.group(4));
                Check.due(0, "README.md: " + line, answer(x, m.group(1), m.group(2)), want);
            } else {
                Check.holds("each call has its answer: " + line, !line.contains("x."));
            }
        }
    }

    private static long answer(PeriodGates x, String name, String list)
            throws IllegalAccessException, InvocationTargetException {
        Object[] arguments = list.isEmpty() ? new Object[0]
            : Arrays.stream(list.split(", ")).map(ReadmeTest::number).toArray();
        for (Method m : PeriodGates.class.getMethods()) {
            if (m.getName().equals(name) && m.getParameterCount() == arguments.length) {
                return ((Number) m.invoke(x, arguments)).longValue();
            }
        }
        throw new IllegalStateException("there is no call " + name);
    }

    private static Integer number(String word) {
        return word.startsWith("'") ? Integer.valueOf(word.charAt(1)) : Integer.valueOf(word);
    }

    private static void calls(String page) {
        for (Method m : PeriodGates.class.getDeclaredMethods()) {
            if (Modifier.isPublic(m.getModifiers())) {
                Check.holds("README.md tells what " + m.getName() + " is about", page.contains("`" + m.getName() + "`"));
            }
        }
    }

    private static void tests(String page) throws IOException {
        TreeSet<String> named = new TreeSet<>();
        Matcher row = Pattern.compile("(?m)^\\| `(\\w+Test)` \\|").matcher(page);
        while (row.find()) {
            named.add(row.group(1));
        }
        try (Stream<Path> files = Files.list(Path.of("src/test/java"))) {
            TreeSet<String> there = files.map(file -> file.getFileName().toString())
                .filter(file -> file.endsWith("Test.java")).map(file -> file.substring(0, file.length() - 5))
                .collect(Collectors.toCollection(TreeSet::new));
            Check.holds("README.md names the tests " + there + ", not " + named, named.equals(there));
        }
    }
}
