import java.lang.reflect.Method;
import java.lang.reflect.Modifier;
import java.nio.file.Files;
import java.nio.file.Path;
import java.util.ArrayList;
import java.util.List;
import java.util.Set;
import java.util.TreeSet;
import java.util.regex.Matcher;
import java.util.regex.Pattern;

// What README.md says holds: each call of its example answers what stands behind it, and its table
// has every call of the class with as many arguments as it takes. .ci/run starts it beside README.md.
public final class ReadmeTest {
    private static final Pattern EXAMPLE = Pattern.compile("x\\.(\\w+)\\(([^)]*)\\);\\s*// ([^:]+):.*");
    private static final Pattern ROW = Pattern.compile("\\| `(\\w+)\\(([^)]*)\\)` \\|.*");

    private static int wrong = 0;

    private static void hold(boolean holds, String what) {
        if (!holds) {
            wrong++;
            System.out.println(what);
        }
    }

    private static String[] arguments(String list) {
        return list.isEmpty() ? new String[0] : list.split(", ");
    }

    private static List<Method> calls() {
        List<Method> found = new ArrayList<>();
        for (Method method : PatchGraphs.class.getDeclaredMethods()) {
            if (Modifier.isPublic(method.getModifiers())) {
                found.add(method);
            }
        }
        return found;
    }

    private static String answer(PatchGraphs x, String name, String[] arguments) throws Exception {
        Object[] values = new Object[arguments.length];
        for (int i = 0; i < values.length; i++) {
            values[i] = Integer.valueOf(arguments[i]);
        }
        for (Method method : calls()) {
            if (method.getName().equals(name)) {
                return String.valueOf(method.invoke(x, values));
            }
        }
        return "nothing, as there is no such call";
    }

    private static String due(String written) throws Exception {
        boolean isCode = written.matches("[A-Z_]+");
        return isCode ? String.valueOf(PatchGraphs.class.getField(written).getInt(null)) : written;
    }

    private static void checkExample(List<String> readme) throws Exception {
        PatchGraphs x = new PatchGraphs();
        int asked = 0;
        for (String row : readme) {
            Matcher m = EXAMPLE.matcher(row);
            if (m.matches()) {
                asked++;
                String got = answer(x, m.group(1), arguments(m.group(2)));
                hold(got.equals(due(m.group(3))), "README.md says " + row + ", but it answered " + got);
            } else {
                hold(!row.startsWith("x."), "README.md has a call without an answer: " + row);
            }
        }
        hold(asked > 0, "README.md has no example");
    }

    private static void checkTable(List<String> readme) {
        Set<String> named = new TreeSet<>();
        for (String row : readme) {
            Matcher m = ROW.matcher(row);
            if (m.matches()) {
                named.add(m.group(1) + " with " + arguments(m.group(2)).length);
            }
        }
        Set<String> wanted = new TreeSet<>();
        for (Method method : calls()) {
            wanted.add(method.getName() + " with " + method.getParameterCount());
        }
        hold(named.equals(wanted), "README.md has the calls " + named + ", the class has " + wanted);
    }

    public static void main(String[] args) throws Exception {
        List<String> readme = Files.readAllLines(Path.of("README.md"));
        checkExample(readme);
        checkTable(readme);
        System.out.println(wrong == 0 ? "README.md is as the class" : wrong + " things are not as due");
        if (wrong != 0) {
            System.exit(1);
        }
    }
}
