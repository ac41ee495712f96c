import java.io.IOException;
import java.lang.reflect.Method;
import java.nio.file.Files;
import java.nio.file.Path;
import java.util.Arrays;
import java.util.List;
import java.util.Set;
import java.util.TreeSet;
import java.util.regex.Matcher;
import java.util.regex.Pattern;

/** README.md: every call of the face is shown, with the answer that it has. */
public final class ReadmeTest {
    private static final Pattern MADE =
        Pattern.compile("DatapathGates unit = new DatapathGates\\((-?\\d+), (-?\\d+)\\); +// .*");
    private static final Pattern CALL =
        Pattern.compile("unit\\.(\\w+)\\(([-\\d, ]*)\\); +// ([^:]*)(: .*)?");
    private static final Set<String> FACE = Set.of(
        "operands", "result", "bit", "feed", "swap", "first", "second", "alike", "width");

    public static void main(String[] args) throws IOException, ReflectiveOperationException {
        List<String> shown = shownLines();
        DatapathGates unit = made(shown.get(0));
        Set<String> called = new TreeSet<>();
        for (String line : shown.subList(1, shown.size())) {
            Matcher call = CALL.matcher(line);
            Due.due("README.md shows a call with its answer in: " + line, call.matches(), true);
            if (call.matches()) {
                called.add(call.group(1));
                String answer = answer(unit, call);
                Due.due("README.md: " + line + " (it answers " + answer + "): as shown", isShown(call.group(3), answer), true);
            }
        }
        for (String name : FACE) {
            Due.due("README.md shows " + name, called.contains(name), true);
        }
        Due.finish();
    }

    private static List<String> shownLines() throws IOException {
        List<String> lines = Files.readAllLines(Path.of("README.md"));
        int opens = lines.indexOf("```java");
        List<String> behind = lines.subList(opens + 1, lines.size());
        return behind.subList(0, behind.indexOf("```"));
    }

    private static DatapathGates made(String line) {
        Matcher made = MADE.matcher(line);
        Due.due("README.md makes an object in: " + line, made.matches(), true);
        return new DatapathGates(Integer.parseInt(made.group(1)), Integer.parseInt(made.group(2)));
    }

    /** "" for a call without an answer. */
    private static String answer(DatapathGates unit, Matcher call) throws ReflectiveOperationException {
        Object[] numbers = Arrays.stream(call.group(2).split(", "))
            .filter(number -> !number.isEmpty()).map(Integer::valueOf).toArray();
        Class<?>[] types = new Class<?>[numbers.length];
        Arrays.fill(types, int.class);
        Method method = DatapathGates.class.getMethod(call.group(1), types);
        Object answer = method.invoke(unit, numbers);
        return method.getReturnType() == void.class ? "" : String.valueOf(answer);
    }

    private static boolean isShown(String words, String answer) {
        String shown = words.equals("DatapathGates.BAD") ? "-1" : words;
        return answer.isEmpty() || shown.equals(answer);
    }
}
