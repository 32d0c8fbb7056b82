import java.io.IOException;
import java.lang.reflect.Method;
import java.nio.file.Files;
import java.nio.file.Path;
import java.util.ArrayList;
import java.util.List;
import java.util.Set;
import java.util.TreeSet;
import java.util.regex.Matcher;
import java.util.regex.Pattern;

/** The example in README.md: each call answers what stands beside it, and every method is shown. */
public final class ReadmeTest {
    private static final String MAKING = "CutLabels x = new CutLabels();";
    private static final Pattern CALL = Pattern.compile("x\\.(\\w+)\\(([-0-9, ]*)\\); +// (-?\\d+): .+");

    private final Check check = new Check();
    private final Face x = new Used();
    private final Set<String> shown = new TreeSet<>();

    public static void main(String[] args) throws IOException, ReflectiveOperationException {
        ReadmeTest test = new ReadmeTest();
        List<String> example = example(Files.readAllLines(Path.of("README.md")));
        test.check.holds("the example begins with " + MAKING, !example.isEmpty() && example.get(0).equals(MAKING));
        for (int line = 1; line < example.size(); line++) {
            test.call(example.get(line));
        }
        for (Method method : Face.class.getMethods()) {
            test.check.holds(method.getName() + " is in the example", test.shown.contains(method.getName()));
        }
        test.check.done();
    }

    private static List<String> example(List<String> readme) {
        List<String> lines = new ArrayList<>();
        boolean inside = false;
        for (String line : readme) {
            if (line.startsWith("```")) {
                inside = line.equals("```java");
            } else if (inside) {
                lines.add(line);
            }
        }
        return lines;
    }

    private void call(String line) throws ReflectiveOperationException {
        Matcher match = CALL.matcher(line);
        if (!match.matches()) {
            check.holds("that a call with its answer is told by: " + line, false);
            return;
        }
        shown.add(match.group(1));
        check.due("README.md: " + line, answer(match.group(1), match.group(2)), Integer.parseInt(match.group(3)));
    }

    private int answer(String name, String told) throws ReflectiveOperationException {
        String[] parts = told.isEmpty() ? new String[0] : told.split(", ");
        Object[] arguments = new Object[parts.length];
        Class<?>[] types = new Class<?>[parts.length];
        for (int n = 0; n < parts.length; n++) {
            arguments[n] = Integer.valueOf(parts[n]);
            types[n] = int.class;
        }
        return (Integer) Face.class.getMethod(name, types).invoke(x, arguments);
    }
}
