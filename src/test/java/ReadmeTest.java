import java.io.IOException;
import java.lang.reflect.InvocationTargetException;
import java.lang.reflect.Method;
import java.lang.reflect.Modifier;
import java.nio.file.Files;
import java.nio.file.Path;
import java.util.ArrayList;
import java.util.List;
import java.util.Set;
import java.util.TreeSet;
import java.util.regex.Matcher;
import java.util.regex.Pattern;

// What README.md says of the class is so: each call of its example answers what
// stands behind it, and example and table leave no method out. .ci/run starts
// the tests in the folder of README.md.
public final class ReadmeTest extends TestHelp {
    private static final Pattern CALL = Pattern.compile("table\\.(\\w+)\\((.*)\\);\\s*(?://\\s*(-?\\w+).*)?");
    private static final Pattern ROW = Pattern.compile("\\| `(\\w+)\\(.*");

    public static void main(String[] args) throws IOException, ReflectiveOperationException {
        List<String> lines = Files.readAllLines(Path.of("README.md"));
        Set<String> shown = new TreeSet<>();
        RouteTable table = new RouteTable();
        for (String line : lines) {
            if (line.startsWith("table.")) {
                shown.add(runLine(line, table));
            }
        }
        sameNames("the example", shown);
        sameNames("the table", rowNames(lines));
        end("README.md agrees with the class");
    }

    private static String runLine(String line, RouteTable table) throws ReflectiveOperationException {
        Matcher call = CALL.matcher(line);
        if (!call.matches()) {
            no("README.md: this line is no call: " + line, true);
            return "";
        }
        String due = call.group(3) == null ? "null" : call.group(3);
        String got = String.valueOf(ask(table, call.group(1), numbers(call.group(2))));
        yes("README.md: " + line + " - it is " + got + "; whether the two agree", got.equals(due));
        return call.group(1);
    }

    private static Object[] numbers(String written) {
        List<Object> numbers = new ArrayList<>();
        for (String number : written.split(",\\s*")) {
            if (number.equals("RouteTable.NONE")) {
                numbers.add(RouteTable.NONE);
            } else if (!number.isEmpty()) {
                numbers.add(Integer.valueOf(number));
            }
        }
        return numbers.toArray();
    }

    private static Object ask(RouteTable table, String name, Object[] given)
            throws IllegalAccessException, InvocationTargetException {
        for (Method method : RouteTable.class.getDeclaredMethods()) {
            if (method.getName().equals(name) && method.getParameterCount() == given.length) {
                return method.invoke(table, given);
            }
        }
        return "no method of the class";
    }

    private static Set<String> rowNames(List<String> lines) {
        Set<String> names = new TreeSet<>();
        for (String line : lines) {
            Matcher row = ROW.matcher(line);
            if (row.matches()) {
                names.add(row.group(1));
            }
        }
        return names;
    }

    private static void sameNames(String where, Set<String> names) {
        Set<String> due = new TreeSet<>();
        for (Method method : RouteTable.class.getDeclaredMethods()) {
            if (Modifier.isPublic(method.getModifiers())) {
                due.add(method.getName());
            }
        }
        yes("README.md: " + where + " has " + names + ", the class " + due + "; whether they agree", names.equals(due));
    }
}
