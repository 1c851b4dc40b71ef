import java.io.IOException;
import java.lang.reflect.InvocationTargetException;
import java.lang.reflect.Method;
import java.lang.reflect.Modifier;
import java.nio.file.Files;
import java.nio.file.Path;
import java.util.ArrayList;
import java.util.HashMap;
import java.util.List;
import java.util.Map;
import java.util.regex.Matcher;
import java.util.regex.Pattern;
import java.util.stream.Stream;

/** README.md: its example answers as it tells, and it names every call, kind and test that there is. */
public final class ReadmeTest {
    private static final Due due = new Due();
    private static final Pattern NEW = Pattern.compile("PlainCobol house = new PlainCobol\\((\\d+)\\);.*");
    private static final Pattern CALL = Pattern.compile(
        "(?:int (\\w+) = )?house\\.(\\w+)\\(([^)]*)\\);\\s*// (-?[0-9.]+)(?:: .*)?");

    private static final Map<String, Integer> names = new HashMap<>();

    public static void main(String[] args) throws IOException, ReflectiveOperationException {
        String readme = Files.readString(Path.of("README.md"));
        example(readme);
        calls(readme);
        kinds(readme);
        tests(readme);
        due.finish();
    }

    private static void example(String readme) throws ReflectiveOperationException {
        PlainCobol house = null;
        for (String line : between(readme, "```java\n", "```").split("\n")) {
            Matcher isNew = NEW.matcher(line);
            Matcher call = CALL.matcher(line);
            if (isNew.matches()) {
                house = new PlainCobol(Long.parseLong(isNew.group(1)));
            } else if (call.matches() && house != null) {
                double got = answer(house, call.group(2), call.group(3));
                due.isReal(line, got, Double.parseDouble(call.group(4)));
                names.put(call.group(1), (int) got);
            } else {
                due.holds("'" + line + "' is a call with its answer", line.isBlank());
            }
        }
        due.holds("there is an example", house != null && names.size() > 1);
    }

    private static double answer(PlainCobol house, String name, String written)
            throws IllegalAccessException, InvocationTargetException {
        String[] parts = written.isEmpty() ? new String[0] : written.split(", ");
        for (Method method : PlainCobol.class.getMethods()) {
            if (method.getName().equals(name) && method.getParameterCount() == parts.length) {
                return ((Number) method.invoke(house, values(method, parts))).doubleValue();
            }
        }
        due.holds(name + " is a call", false);
        return 0;
    }

    private static Object[] values(Method method, String[] parts) {
        Object[] values = new Object[parts.length];
        for (int i = 0; i < parts.length; i++) {
            Integer named = names.get(parts[i]);
            long value = named != null ? named : Long.parseLong(parts[i]);
            values[i] = method.getParameterTypes()[i] == long.class ? (Object) value : (Object) (int) value;
        }
        return values;
    }

    private static void calls(String readme) {
        String table = between(readme, "| call |", "\n\n");
        for (Method method : PlainCobol.class.getDeclaredMethods()) {
            if (Modifier.isPublic(method.getModifiers())) {
                due.holds("the table has " + method.getName(), table.contains("`" + method.getName() + "("));
            }
        }
    }

    private static void kinds(String readme) {
        due.is("kinds of nodes", known(between(readme, "| kind of node |", "\n\n")), 13);
        due.is("kinds of acts", known(between(readme, "| kind of act |", "\n\n")), 5);
    }

    /** How many of the numbers from 0 on stand in the first column, without a gap. */
    private static int known(String table) {
        List<String> first = new ArrayList<>();
        for (String row : table.split("\n")) {
            first.add(row.replaceFirst("^\\| ", ", ").replaceFirst(" \\|.*", ""));
        }
        String column = String.join("", first);
        int kind = 0;
        while (column.contains(", " + kind + " ")) {
            kind++;
        }
        return kind;
    }

    private static void tests(String readme) throws IOException {
        try (Stream<Path> all = Files.list(Path.of("src/test/java"))) {
            for (Path file : (Iterable<Path>) all::iterator) {
                String name = file.getFileName().toString().replace(".java", "");
                due.holds("it names " + name,
                    !name.endsWith("Test") || readme.contains("| `" + name + "` |"));
            }
        }
    }

    private static String between(String text, String from, String to) {
        int start = text.indexOf(from);
        int end = start < 0 ? -1 : text.indexOf(to, start + from.length());
        due.holds("README.md has '" + from.trim() + "'", end >= 0);
        return end < 0 ? "" : text.substring(start + from.length(), end);
    }
}
