import java.io.IOException;
import java.lang.reflect.Method;
import java.nio.file.Files;
import java.nio.file.Path;
import java.util.ArrayList;
import java.util.Arrays;
import java.util.Collections;
import java.util.List;
import java.util.regex.Matcher;
import java.util.regex.Pattern;
import java.util.stream.Stream;

/** What README.md tells of the calls is what they answer; run from the project's directory. */
final class ReadmeTest {
    private static final Pattern MAKE = Pattern.compile("WarpMachine x = new WarpMachine\\((-?\\d+)\\);.*");
    private static final Pattern CALL = Pattern.compile("x\\.(\\w+)\\(([^)]*)\\);(?:\\s*// (-?\\d+)\\b.*)?");
    private static final Pattern ROW = Pattern.compile("\\| `((?:\\w+ )?\\w+\\()([^)]*)\\)` \\|.*");

    public static void main(String[] args) throws IOException, ReflectiveOperationException {
        List<String> readme = Files.readAllLines(Path.of("README.md"));
        Due.sentence("README.md: the example");
        example(readme);
        Due.sentence("README.md: the table of calls");
        table(readme);
        Due.end();
    }

    private static void example(List<String> readme) throws ReflectiveOperationException {
        int begin = readme.indexOf("```java") + 1;
        int end = begin + readme.subList(begin, readme.size()).indexOf("```");
        WarpMachine x = null;
        for (String line : readme.subList(begin, end)) {
            Matcher make = MAKE.matcher(line);
            if (make.matches()) {
                x = new WarpMachine(Integer.parseInt(make.group(1)));
            } else {
                call(x, line);
            }
        }
    }

    private static void call(WarpMachine x, String line) throws ReflectiveOperationException {
        Matcher call = CALL.matcher(line);
        boolean read = call.matches();
        Due.is("a call that can be read: " + line, read ? 1 : 0, 1);
        if (!read) {
            return;
        }
        Object[] values = Stream.of(call.group(2).split(", ")).filter(v -> !v.isEmpty()).map(Integer::valueOf).toArray();
        Class<?>[] types = new Class<?>[values.length];
        Arrays.fill(types, int.class);
        Method method = WarpMachine.class.getMethod(call.group(1), types);
        Object got = method.invoke(x, values);
        String told = call.group(3);
        Due.is("an answer is told where there is one: " + line, told != null ? 1 : 0, got != null ? 1 : 0);
        if (told != null && got != null) {
            Due.is(line, (Integer) got, Integer.parseInt(told));
        }
    }

    private static void table(List<String> readme) {
        List<String> rows = new ArrayList<>();
        for (String line : readme) {
            Matcher row = ROW.matcher(line);
            if (row.matches()) {
                // The face is told without the parameters' names.
                rows.add(row.group(1) + row.group(2).replaceAll("int \\w+", "int") + ")");
            }
        }
        Collections.sort(rows);
        Due.is("the face of the document against " + rows, rows.equals(FaceTest.FACE) ? 1 : 0, 1);
    }
}
