import java.io.IOException;
import java.lang.reflect.Method;
import java.lang.reflect.Modifier;
import java.nio.file.Files;
import java.nio.file.Path;
import java.util.ArrayList;
import java.util.Arrays;
import java.util.HashSet;
import java.util.List;
import java.util.Set;
import java.util.TreeSet;
import java.util.regex.Matcher;
import java.util.regex.Pattern;
import java.util.stream.Stream;

/** What README.md shows as calls with their answers is what the class answers. */
public final class ReadmeTest {
    private static final Path README = Path.of("README.md");
    private static final Path TESTS = Path.of("src/test/java");
    private static final String BEGIN = "NetworkStates n = new NetworkStates();";
    private static final Pattern BLOCK = Pattern.compile("(?ms)^```java\n(.*?)^```$");
    private static final Pattern CALL = Pattern.compile("n\\.(\\w+)\\(([^)]*)\\); *// (-?\\d+)(:.*)?");
    private static final Pattern FILE = Pattern.compile("`(\\w+Test)`");

    private static final Due due = new Due();

    public static void main(String[] args) throws IOException, ReflectiveOperationException {
        String text = Files.readString(README);
        List<String> lines = linesOfJava(text);
        due.holds("the first line makes an object", !lines.isEmpty() && lines.get(0).equals(BEGIN));
        Set<String> shown = new HashSet<>();
        NetworkStates n = null;
        for (String line : lines) {
            if (line.equals(BEGIN)) {
                n = new NetworkStates();
            } else {
                shown.add(call(n, line));
            }
        }
        everyCallIsShown(shown);
        everyTestIsNamed(text);
        due.holds("it says how to run the tests", text.contains("```sh\n.ci/run\n```"));
        due.end();
    }

    private static List<String> linesOfJava(String text) {
        List<String> lines = new ArrayList<>();
        Matcher block = BLOCK.matcher(text);
        while (block.find()) {
            block.group(1).lines().filter(line -> !line.isBlank()).forEach(lines::add);
        }
        return lines;
    }

    /** Makes the call of a line, and answers its name. */
    private static String call(NetworkStates n, String line) throws ReflectiveOperationException {
        Matcher call = CALL.matcher(line);
        boolean is = call.matches();
        due.holds("a call with its answer: " + line, is);
        if (!is) {
            return "";
        }
        Object[] arguments = argumentsOf(call.group(2));
        Class<?>[] types = new Class<?>[arguments.length];
        Arrays.fill(types, int.class);
        Method method = NetworkStates.class.getMethod(call.group(1), types);
        long answer = ((Number) method.invoke(n, arguments)).longValue();
        due.answer("README.md: " + line, answer, Long.parseLong(call.group(3)));
        return call.group(1);
    }

    private static Object[] argumentsOf(String text) {
        if (text.isBlank()) {
            return new Object[0];
        }
        return Stream.of(text.split(", ")).map(ReadmeTest::numberOf).toArray();
    }

    private static Object numberOf(String text) {
        return text.startsWith("0b") ? Integer.parseInt(text.substring(2), 2) : Integer.parseInt(text);
    }

    private static void everyCallIsShown(Set<String> shown) {
        for (Method m : NetworkStates.class.getDeclaredMethods()) {
            if (Modifier.isPublic(m.getModifiers())) {
                due.holds(m.getName() + " is shown", shown.contains(m.getName()));
            }
        }
    }

    private static void everyTestIsNamed(String text) throws IOException {
        Set<String> named = new TreeSet<>();
        Matcher file = FILE.matcher(text);
        while (file.find()) {
            named.add(file.group(1));
        }
        Set<String> there = new TreeSet<>();
        try (Stream<Path> files = Files.list(TESTS)) {
            files.map(path -> path.getFileName().toString()).filter(name -> name.endsWith("Test.java"))
                    .forEach(name -> there.add(name.replace(".java", "")));
        }
        due.holds("the tests that are there are named: " + there + " as " + named, there.equals(named));
    }
}
