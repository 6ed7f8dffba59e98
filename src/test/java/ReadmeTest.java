import java.io.IOException;
import java.lang.reflect.Method;
import java.lang.reflect.Modifier;
import java.nio.file.Files;
import java.nio.file.Path;
import java.util.HashMap;
import java.util.Map;
import java.util.regex.Matcher;
import java.util.regex.Pattern;
import java.util.stream.Stream;

/** The lines of README.md, called in their order on one object: each answers what stands behind it; and that the page names all there is. */
final class ReadmeTest {
    private static final Pattern BLOCK = Pattern.compile("(?s)```java\n(.*?)```");
    private static final Pattern CALL = Pattern.compile("(?:int (\\w+) = )?x\\.(\\w+)\\(([^;]*)\\);\\s*// (-?\\d+): .+");
    private static final Pattern TEXT = Pattern.compile("String law = \"([^\"]+)\";");
    private static final String MAKES = "ThreePoints x = new ThreePoints();";
    private static final String FEEDS = "for (int i = 0; i < law.length(); i++) x.feed(1, law.charAt(i), 0, 0, 0, 0);";

    private final ThreePoints x = new ThreePoints();
    private final Map<String, Integer> numbers = new HashMap<>();
    private String law = "";
    private int calls;

    public static void main(String[] args) throws Exception {
        Path readme = Path.of(System.getProperty("readme", "README.md")).toAbsolutePath();
        String page = Files.readString(readme);
        namesAllCalls(page);
        namesAllTests(page, readme.getParent().resolve("src/test/java"));
        new ReadmeTest().runLines(page);
        Due.end();
    }

    private static void namesAllCalls(String page) {
        for (Method method : ThreePoints.class.getDeclaredMethods()) {
            if (!Modifier.isPublic(method.getModifiers())) continue;
            Due.isTrue("a line with " + method.getName(), page.contains("x." + method.getName() + "("));
            Due.isTrue("a row of " + method.getName(), page.contains("| `" + method.getName() + "("));
        }
    }

    private static void namesAllTests(String page, Path tests) throws IOException {
        try (Stream<Path> files = Files.list(tests)) {
            for (Path file : files.toList()) {
                String name = file.getFileName().toString().replace(".java", "");
                Due.isTrue("the page names " + name, page.contains("`" + name + "`"));
            }
        }
    }

    private void runLines(String page) throws ReflectiveOperationException {
        Matcher block = BLOCK.matcher(page);
        while (block.find()) {
            for (String line : block.group(1).split("\n")) run(line);
        }
        Due.isTrue("calls on the page: " + calls, calls > 50 && calls < 512);
    }

    private void run(String line) throws ReflectiveOperationException {
        Matcher call = CALL.matcher(line);
        Matcher text = TEXT.matcher(line);
        if (call.matches()) {
            long got = call(call.group(2), call.group(3).split(", *"));
            Due.is(line, got, Long.parseLong(call.group(4)));
            if (call.group(1) != null) numbers.put(call.group(1), (int) got);
        } else if (text.matches()) {
            law = text.group(1);
        } else if (line.equals(FEEDS)) {
            Due.feed(x, law);
            calls += law.length();
        } else {
            Due.same("a line that is no call", line, MAKES);
        }
    }

    private long call(String name, String[] told) throws ReflectiveOperationException {
        calls++;
        Object[] args = new Object[told[0].isEmpty() ? 0 : told.length];
        Class<?>[] types = new Class<?>[args.length];
        for (int i = 0; i < args.length; i++) {
            args[i] = number(told[i]);
            types[i] = int.class;
        }
        return ((Number) ThreePoints.class.getMethod(name, types).invoke(x, args)).longValue();
    }

    private int number(String told) {
        if (numbers.containsKey(told)) return numbers.get(told);
        if (told.matches("'.'")) return told.charAt(1);
        return Integer.parseInt(told);
    }
}
