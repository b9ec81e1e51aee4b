import java.io.IOException;
import java.lang.reflect.Method;
import java.lang.reflect.Modifier;
import java.nio.charset.StandardCharsets;
import java.nio.file.Files;
import java.nio.file.Path;
import java.util.List;
import java.util.Map;
import java.util.regex.Matcher;
import java.util.regex.Pattern;
import java.util.stream.IntStream;

/** README.md says how to use the class: its calls answer what stands behind them, and no method is left out. */
public final class ReadmeTest {
    private static final Path FILE = Path.of("README.md");
    private static final Pattern CALL = Pattern.compile("roof\\.(\\w+)\\((.*?)\\);\\s+// (throws \\w+|-?\\w+)(:.*)?");
    private static final Map<String, String> EXCEPTIONS = Map.of(
            "throws IllegalArgumentException", "throws argument",
            "throws IndexOutOfBoundsException", "throws index",
            "throws IllegalStateException", "throws state");

    private ReadmeTest() {
    }

    public static void main(String[] args) throws IOException {
        List<String> lines = Files.readAllLines(FILE, StandardCharsets.UTF_8);
        examples(lines);
        String all = String.join("\n", lines);
        for (Method method : RectilinearRoof.class.getDeclaredMethods()) {
            String name = method.getName();
            boolean isNamed = all.contains("`" + name + "`") || all.contains("roof." + name + "(");
            Check.same("README.md names " + name,
                    isNamed || !Modifier.isPublic(method.getModifiers()) ? 1 : 0, 1);
        }
        Check.finish("ReadmeTest");
    }

    private static void examples(List<String> lines) {
        boolean isCode = false;
        int calls = 0;
        RectilinearRoof roof = null;
        for (String line : lines) {
            if (line.startsWith("```")) {
                isCode = line.equals("```java");
            } else if (isCode && line.equals("RectilinearRoof roof = new RectilinearRoof();")) {
                roof = new RectilinearRoof();
            } else if (isCode) {
                Matcher call = CALL.matcher(line);
                boolean isCall = call.matches();
                Check.same("a call with its answer: " + line, isCall ? 1 : 0, 1);
                if (isCall) {
                    String due = EXCEPTIONS.getOrDefault(call.group(3), call.group(3));
                    Check.same(line, Call.of(call.group(1), numbers(call.group(2))).on(roof), due);
                    calls++;
                }
            }
        }
        Check.same("README.md has examples", calls >= 40 ? 1 : 0, 1);
    }

    private static int[] numbers(String list) {
        if (list.isEmpty()) {
            return new int[0];
        }
        String[] parts = list.split(", ");
        return IntStream.range(0, parts.length).map(i -> number(parts[i])).toArray();
    }

    private static int number(String text) {
        return text.startsWith("'") ? text.charAt(1) : Integer.decode(text);
    }
}
