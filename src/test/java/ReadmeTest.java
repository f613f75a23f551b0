import java.io.IOException;
import java.lang.reflect.Method;
import java.lang.reflect.Modifier;
import java.nio.file.Files;
import java.nio.file.Path;
import java.util.Arrays;
import java.util.List;
import java.util.regex.Matcher;
import java.util.regex.Pattern;
import java.util.stream.Stream;

/** README.md: its calls answer what stands behind them, and it names every call and every test. */
public final class ReadmeTest {
    private static final Pattern TEXT = Pattern.compile("String text = \"(.*)\";");
    private static final Pattern CALL = Pattern.compile("x\\.(\\w+)\\((.*)\\);\\s+// (-?\\d+)(:.*)?");
    /** Lines that are the same for every text; the puts are made when the text is told. */
    private static final List<String> FRAME = List.of("BreathSquare x = new BreathSquare();",
            "for (int i = 0; i < text.length(); i++) {", "x.put(0, i, text.charAt(i));", "}");

    private final BreathSquare x = new BreathSquare();
    private String text = "";
    private int calls;

    public static void main(String[] args) throws IOException, ReflectiveOperationException {
        String page = Files.readString(Path.of("README.md"));
        new ReadmeTest().example(page);
        everyCallIsNamed(page);
        everyTestIsNamed(page);
        Check.end("ReadmeTest");
    }

    private void example(String page) throws ReflectiveOperationException {
        int start = page.indexOf("```java\n");
        int end = page.indexOf("\n```\n", start + 1);
        Check.that("an example", start >= 0 && end > start);
        for (String line : page.substring(start, end).split("\n")) {
            if (!line.startsWith("```")) {
                play(line.trim());
            }
        }
        Check.that("calls in the example", calls > 20);
    }

    private void play(String line) throws ReflectiveOperationException {
        Matcher told = TEXT.matcher(line);
        Matcher call = CALL.matcher(line);
        if (told.matches()) {
            text = told.group(1);
        } else if (call.matches()) {
            Check.same(line, answer(call.group(1), call.group(2)), Long.parseLong(call.group(3)));
            calls++;
        } else {
            Check.that("a line that the test knows: " + line, FRAME.contains(line));
        }
        if (line.equals(FRAME.get(2))) {
            for (int i = 0; i < text.length(); i++) {
                Check.same("put", x.put(0, i, text.charAt(i)), 1);
            }
        }
    }

    private long answer(String name, String told) throws ReflectiveOperationException {
        String plain = told.replace("text.length()", String.valueOf(text.length()));
        Object[] numbers = plain.isEmpty() ? new Object[0]
                : Arrays.stream(plain.split(", ")).map(Integer::valueOf).toArray();
        Class<?>[] ints = new Class<?>[numbers.length];
        Arrays.fill(ints, int.class);
        return ((Number) BreathSquare.class.getMethod(name, ints).invoke(x, numbers)).longValue();
    }

    private static void everyCallIsNamed(String page) {
        for (Method method : BreathSquare.class.getDeclaredMethods()) {
            boolean isCall = Modifier.isPublic(method.getModifiers());
            Check.that("names " + method.getName(), !isCall || page.contains("`" + method.getName() + "`"));
        }
    }

    private static void everyTestIsNamed(String page) throws IOException {
        try (Stream<Path> files = Files.list(Path.of("src/test/java"))) {
            files.map(file -> file.getFileName().toString().replace(".java", ""))
                    .forEach(name -> Check.that("names " + name, page.contains("`" + name + "`")));
        }
    }
}
