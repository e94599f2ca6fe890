import java.io.IOException;
import java.lang.reflect.InvocationTargetException;
import java.lang.reflect.Method;
import java.lang.reflect.Modifier;
import java.nio.file.Files;
import java.nio.file.Path;
import java.util.ArrayList;
import java.util.List;
import java.util.regex.Matcher;
import java.util.regex.Pattern;

/** What README.md shows of the class is so: its examples, and its table of the calls. */
public final class ReadmeTest {
    private static final String NEW_OBJECT = "SpellPitch x = new SpellPitch();";
    private static final Pattern CALL =
        Pattern.compile("x\\.(\\w+)\\((.*?)\\);\\s*// (-?\\d+|throws \\w+)(:.*)?");

    private final Due due = new Due("ReadmeTest");
    private final List<String> lines;
    private SpellPitch x = null;

    private ReadmeTest(List<String> lines) {
        this.lines = lines;
    }

    public static void main(String[] args) throws IOException {
        ReadmeTest test = new ReadmeTest(Files.readAllLines(Path.of("README.md")));
        test.examples();
        test.table();
        test.due.end();
    }

    private void examples() {
        boolean inside = false;
        int shown = 0;
        for (String line : lines) {
            if (line.startsWith("```")) {
                inside = line.equals("```java");
            } else if (inside && line.equals(NEW_OBJECT)) {
                x = new SpellPitch();
            } else if (inside) {
                Matcher call = CALL.matcher(line);
                due.is(line + " can be read", call.matches() ? 1 : 0, 1);
                if (call.matches()) {
                    String got = answer(call.group(1), call.group(2));
                    due.is(line + " (answered " + got + ")", got.equals(call.group(3)) ? 1 : 0, 1);
                    shown++;
                }
            }
        }
        due.is("some calls are shown", shown > 0 ? 1 : 0, 1);
    }

    private String answer(String name, String written) {
        for (Method method : calls()) {
            if (method.getName().equals(name)) {
                try {
                    return method.invoke(x, arguments(written)).toString();
                } catch (InvocationTargetException e) {
                    return "throws " + e.getCause().getClass().getSimpleName();
                } catch (IllegalAccessException | IllegalArgumentException e) {
                    return "nothing: " + e.getMessage();
                }
            }
        }
        return "nothing: there is no such call";
    }

    private static Object[] arguments(String written) {
        List<Object> found = new ArrayList<>();
        for (String each : written.isEmpty() ? new String[0] : written.split(", ")) {
            boolean truth = each.equals("true") || each.equals("false");
            found.add(truth ? (Object) Boolean.valueOf(each) : (Object) Integer.valueOf(each));
        }
        return found.toArray();
    }

    private void table() {
        for (Method method : calls()) {
            String start = "| `" + method.getName() + "(";
            long rows = lines.stream().filter(line -> line.startsWith(start)).count();
            due.is("rows of the table for " + method.getName(), rows, 1);
        }
        long all = lines.stream().filter(line -> line.startsWith("| `")).count();
        due.is("rows of the table", all, calls().size());
    }

    private static List<Method> calls() {
        List<Method> found = new ArrayList<>();
        for (Method method : SpellPitch.class.getDeclaredMethods()) {
            if (Modifier.isPublic(method.getModifiers())) {
                found.add(method);
            }
        }
        return found;
    }
}
