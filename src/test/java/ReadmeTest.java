import java.lang.reflect.Method;
import java.lang.reflect.Modifier;
import java.nio.file.Files;
import java.nio.file.Path;
import java.util.ArrayList;
import java.util.List;
import java.util.Set;
import java.util.TreeSet;
import java.util.regex.Matcher;
import java.util.regex.Pattern;

// What README.md tells is so: each call of its example has the answer beside it, and its table has the whole face.
public final class ReadmeTest {
    private static final Pattern CALL = Pattern.compile("s\\.(\\w+)\\((.*?)\\);\\s*// (-?\\d+)\\b.*");
    private static final Pattern ROW = Pattern.compile("\\| `(\\w+)\\((.*?)\\)` \\|.*");

    private static int wrong = 0;

    private static void due(String what, Object got, Object want) {
        if (!got.equals(want)) {
            wrong++;
            System.out.println(what + " is " + got + ", due is " + want);
        }
    }

    public static void main(String[] args) throws Exception {
        List<String> lines = Files.readAllLines(Path.of("README.md"));
        example(lines);
        table(lines);
        System.out.println(wrong == 0 ? "all is as due" : wrong + " things are not as due");
        if (wrong != 0) {
            System.exit(1);
        }
    }

    private static void example(List<String> lines) throws Exception {
        SwellBodies s = new SwellBodies();
        int calls = 0;
        for (String line : lines) {
            if (line.startsWith("s.")) {
                Matcher call = CALL.matcher(line);
                due("readable: " + line, call.matches(), true);
                due(line, answer(s, call.group(1), call.group(2)), Long.parseLong(call.group(3)));
                calls++;
            }
        }
        due("the example has calls", calls > 20, true);
    }

    private static long answer(SwellBodies s, String name, String parts) throws Exception {
        String[] given = parts.isEmpty() ? new String[0] : parts.split(", ");
        Method method = method(name);
        Object[] values = new Object[given.length];
        for (int i = 0; i < given.length; i++) {
            Class<?> type = method.getParameterTypes()[i];
            values[i] = type == long.class ? (Object) Long.valueOf(given[i])
                : type == boolean.class ? (Object) Boolean.valueOf(given[i]) : Integer.valueOf(given[i]);
        }
        return ((Number) method.invoke(s, values)).longValue();
    }

    private static Method method(String name) {
        for (Method method : SwellBodies.class.getDeclaredMethods()) {
            if (method.getName().equals(name)) {
                return method;
            }
        }
        throw new IllegalArgumentException("no method " + name);
    }

    private static void table(List<String> lines) {
        Set<String> told = new TreeSet<>();
        for (String line : lines) {
            Matcher row = ROW.matcher(line);
            if (row.matches()) {
                int parts = row.group(2).isEmpty() ? 0 : row.group(2).split(", ").length;
                due("told once: " + row.group(1), told.add(row.group(1) + " " + parts), true);
            }
        }
        List<String> face = new ArrayList<>();
        for (Method method : SwellBodies.class.getDeclaredMethods()) {
            if (Modifier.isPublic(method.getModifiers())) {
                face.add(method.getName() + " " + method.getParameterCount());
            }
        }
        due("the table", told, new TreeSet<>(face));
    }
}
