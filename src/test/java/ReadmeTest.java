import java.io.IOException;
import java.lang.reflect.Method;
import java.nio.file.Files;
import java.nio.file.Path;
import java.util.ArrayList;
import java.util.Arrays;
import java.util.List;
import java.util.regex.Matcher;
import java.util.regex.Pattern;

/** README.md tells every call of the document's face, and its examples answer what stands behind them. Run from the project's folder. */
public final class ReadmeTest {
    private static final Check CHECK = new Check();
    private static final Path DOCUMENT = Path.of("../shared/DOC.md");
    private static final Path README = Path.of("README.md");
    private static final int EXAMPLES = 2;
    private static final Pattern FACE = Pattern.compile("    public (?:int|long) (\\w+)\\(([^)]*)\\);");
    private static final Pattern BLOCK = Pattern.compile("```java\n(.*?)```", Pattern.DOTALL);
    private static final Pattern ANSWERED = Pattern.compile("crown\\.(\\w+)\\(([-0-9, ]*)\\); +// (-?\\d+): .+");
    private static final Pattern TEXT = Pattern.compile("String text = \"(.*)\";");
    private static final List<String> PLAIN = List.of(
            "CrownTwo crown = new CrownTwo();",
            "for (int i = 0; i < text.length(); i++) crown.type(text.charAt(i));");

    public static void main(String[] args) throws IOException, ReflectiveOperationException {
        String readme = Files.readString(README);
        everyCall(readme);
        int examples = 0;
        for (Matcher m = BLOCK.matcher(readme); m.find(); examples++) example(m.group(1));
        CHECK.due("examples", examples, EXAMPLES);
        CHECK.end("ReadmeTest");
    }

    private static void everyCall(String readme) throws IOException {
        int calls = 0;
        for (Matcher m = FACE.matcher(Files.readString(DOCUMENT)); m.find(); calls++) {
            String row = "| `" + m.group(1) + "(" + m.group(2).replace("int ", "") + ")` |";
            CHECK.due("README.md has " + row, readme.contains(row) ? 1 : 0, 1);
        }
        CHECK.due("calls of the face", calls, 34);
    }

    /** Each line is a call with its answer, or one that is known here. */
    private static void example(String lines) throws ReflectiveOperationException {
        CrownTwo crown = new CrownTwo();
        for (String line : lines.split("\n")) {
            Matcher call = ANSWERED.matcher(line);
            Matcher text = TEXT.matcher(line);
            if (call.matches()) {
                CHECK.due(line, answer(crown, call.group(1), numbers(call.group(2))), Long.parseLong(call.group(3)));
            } else if (text.matches()) {
                Check.type(crown, text.group(1));
            } else {
                CHECK.due("known: " + line, PLAIN.contains(line) ? 1 : 0, 1);
            }
        }
    }

    private static Object[] numbers(String list) {
        List<Object> numbers = new ArrayList<>();
        for (String number : list.split(",")) {
            if (!number.isBlank()) numbers.add(Integer.valueOf(number.trim()));
        }
        return numbers.toArray();
    }

    private static long answer(CrownTwo crown, String name, Object[] numbers) throws ReflectiveOperationException {
        Class<?>[] ints = new Class<?>[numbers.length];
        Arrays.fill(ints, int.class);
        Method method = CrownTwo.class.getMethod(name, ints);
        return ((Number) method.invoke(crown, numbers)).longValue();
    }
}
