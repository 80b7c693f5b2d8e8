import java.lang.reflect.Method;
import java.nio.charset.StandardCharsets;
import java.nio.file.Files;
import java.nio.file.Path;
import java.util.TreeMap;
import java.util.TreeSet;
import java.util.regex.Matcher;
import java.util.regex.Pattern;

/** The examples of README.md, each call against the answer that stands behind it. */
public final class ReadmeTests {
    private static final Pattern CALL = Pattern.compile("^x\\.(\\w+)\\((.*)\\); +// (-?\\d+)(?:: .*)?$");
    private static final Pattern WRITE =
            Pattern.compile("^write\\(x, (\\d), \"(.*)\"\\); +// (-?\\d+)(?:: .*)?$");

    private final LongestRuns x = new LongestRuns();
    private final TreeMap<String, Method> calls = new TreeMap<>();
    private final TreeSet<String> shown = new TreeSet<>();

    public static void main(String[] args) throws Exception {
        Path file = Path.of(args.length > 0 ? args[0] : "src/main/java/LongestRuns.java");
        Path readme = file.toAbsolutePath().getParent().resolve("../../../README.md").normalize();
        ReadmeTests tests = new ReadmeTests();
        for (String line : Files.readString(readme, StandardCharsets.US_ASCII).split("\n")) {
            tests.ask(line);
        }
        tests.hasAll();
        Check.end();
    }

    private ReadmeTests() {
        for (Method method : LongestRuns.class.getMethods()) {
            if (method.getDeclaringClass() == LongestRuns.class) {
                calls.put(method.getName(), method);
            }
        }
    }

    private void ask(String line) throws Exception {
        Matcher write = WRITE.matcher(line);
        Matcher call = CALL.matcher(line);
        if (write.matches()) {
            x.wipe();
            Check.say(x, write.group(2));
            Check.due(line, x.program(Integer.parseInt(write.group(1))), due(write.group(3)));
        } else if (call.matches()) {
            shown.add(call.group(1));
            Check.due(line, answer(call.group(1), call.group(2)), due(call.group(3)));
        } else {
            Check.holds("an example that is not asked: " + line, !line.matches("^(x\\.|write\\().*"));
        }
    }

    private int answer(String name, String arguments) throws Exception {
        String[] texts = arguments.isEmpty() ? new String[0] : arguments.split(", ");
        Object[] numbers = new Object[texts.length];
        for (int i = 0; i < texts.length; i++) {
            numbers[i] = texts[i].startsWith("'") ? texts[i].charAt(1) : due(texts[i]);
        }
        return (Integer) calls.get(name).invoke(x, numbers);
    }

    private static int due(String number) {
        return Integer.parseInt(number);
    }

    private void hasAll() {
        Check.holds("each call has an example: " + shown, shown.equals(new TreeSet<>(calls.keySet())));
    }
}
