import java.io.IOException;
import java.lang.reflect.Method;
import java.nio.file.DirectoryStream;
import java.nio.file.Files;
import java.nio.file.Path;
import java.util.HashMap;
import java.util.List;
import java.util.Map;
import java.util.regex.Matcher;
import java.util.regex.Pattern;

/** Runs the example of README.md, line by line, and holds each answer against the one that the line tells. */
public final class ReadmeTest {
    private static final String START = "StripDies dies = new StripDies();";
    /** int name = dies.call(numbers and names);  // answer: why */
    private static final Pattern CALL =
            Pattern.compile("(?:int (\\w+) = )?dies\\.(\\w+)\\(([^)]*)\\); +// (-?\\d+|[A-Z]+)(?::.*)?");

    private static final StripDies DIES = new StripDies();
    private static final Map<String, Integer> NAMES = new HashMap<>();
    private static int wrong = 0;
    private static int calls = 0;

    public static void main(String[] args) throws ReflectiveOperationException, IOException {
        String text = Files.readString(Path.of("README.md"));
        runExample(exampleOf(text));
        namesEveryTest(text);
        System.out.println(wrong == 0 ? "README.md is as it says" : wrong + " things in README.md are not as it says");
        if (wrong != 0) {
            System.exit(1);
        }
    }

    private static void tellWrong(String what) {
        wrong++;
        System.out.println("README.md: " + what);
    }

    private static List<String> exampleOf(String text) {
        Matcher block = Pattern.compile("```java\n(.*?)```", Pattern.DOTALL).matcher(text);
        return block.find() ? block.group(1).lines().toList() : List.of();
    }

    private static void runExample(List<String> lines) throws ReflectiveOperationException {
        if (lines.isEmpty() || !lines.get(0).equals(START)) {
            tellWrong("its example does not begin with " + START);
            return;
        }
        for (String line : lines.subList(1, lines.size())) {
            if (!line.isBlank() && !line.startsWith("//")) {
                runLine(line);
            }
        }
        if (calls == 0) {
            tellWrong("its example calls nothing");
        }
    }

    private static void runLine(String line) throws ReflectiveOperationException {
        Matcher m = CALL.matcher(line);
        if (!m.matches()) {
            tellWrong("no call with its answer: " + line);
            return;
        }
        calls++;
        long got = answerOf(m.group(2), m.group(3));
        if (m.group(1) != null) {
            NAMES.put(m.group(1), (int) got);
        }
        long told = m.group(4).matches("-?\\d+")
                ? Long.parseLong(m.group(4)) : StripDies.class.getField(m.group(4)).getLong(null);
        if (got != told) {
            tellWrong("answered " + got + ": " + line);
        }
    }

    private static long answerOf(String name, String between) throws ReflectiveOperationException {
        String[] words = between.isEmpty() ? new String[0] : between.split(", ");
        Class<?>[] types = new Class<?>[words.length];
        Object[] values = new Object[words.length];
        for (int i = 0; i < words.length; i++) {
            types[i] = int.class;
            values[i] = NAMES.containsKey(words[i]) ? NAMES.get(words[i]) : Integer.valueOf(words[i]);
        }
        Method call = StripDies.class.getMethod(name, types);
        return ((Number) call.invoke(DIES, values)).longValue();
    }

    private static void namesEveryTest(String text) throws IOException {
        try (DirectoryStream<Path> tests = Files.newDirectoryStream(Path.of("src/test/java"), "*.java")) {
            for (Path test : tests) {
                if (!text.contains(test.getFileName().toString())) {
                    tellWrong("it does not name " + test);
                }
            }
        }
    }
}
