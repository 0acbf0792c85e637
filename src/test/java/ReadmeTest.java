import java.io.IOException;
import java.lang.reflect.InvocationTargetException;
import java.lang.reflect.Method;
import java.lang.reflect.Modifier;
import java.nio.file.Files;
import java.nio.file.Path;
import java.util.Map;
import java.util.TreeMap;
import java.util.TreeSet;
import java.util.regex.Matcher;
import java.util.regex.Pattern;

/** README.md's example answers what is written behind its lines, and its table names every call. */
public final class ReadmeTest {
    private static final Check CHECK = new Check();
    private static final Pattern EXAMPLE = Pattern.compile("sets\\.(\\w+)\\(([^)]*)\\);\\s+// ([^:]+).*");
    private static final Pattern CALL = Pattern.compile("`(\\w+)\\((set[^)]*)\\)`");

    private ReadmeTest() {
    }

    public static void main(String[] args) throws IOException, IllegalAccessException {
        Map<String, Method> calls = calls();
        SmallNumberSets sets = new SmallNumberSets();
        int examples = 0;
        TreeSet<String> named = new TreeSet<>();
        for (String line : Files.readAllLines(Path.of("README.md"))) {
            Matcher example = EXAMPLE.matcher(line);
            if (example.matches()) {
                examples++;
                Method call = calls.get(example.group(1) + " " + countOf(example.group(2)));
                CHECK.same(line + " is a call", call != null, true);
                CHECK.same(line, call == null ? "" : answer(call, sets, example.group(2)), example.group(3));
            }
            Matcher call = CALL.matcher(line);
            while (line.startsWith("|") && call.find()) {
                named.add(call.group(1) + " " + countOf(call.group(2)));
            }
        }
        CHECK.same("examples were read", examples > 10, true);
        CHECK.same("calls in the table, each with its number of arguments", named, calls.keySet());
        CHECK.end();
    }

    /** The calls of the face by their name and number of arguments: "insert 2". */
    private static Map<String, Method> calls() {
        Map<String, Method> calls = new TreeMap<>();
        for (Method method : SmallNumberSets.class.getDeclaredMethods()) {
            if (Modifier.isPublic(method.getModifiers())) {
                calls.put(method.getName() + " " + method.getParameterCount(), method);
            }
        }
        return calls;
    }

    private static int countOf(String arguments) {
        return arguments.split(", ").length;
    }

    private static String answer(Method call, SmallNumberSets sets, String arguments) throws IllegalAccessException {
        Object[] numbers = new Object[countOf(arguments)];
        for (int i = 0; i < numbers.length; i++) {
            numbers[i] = Integer.valueOf(arguments.split(", ")[i]);
        }
        try {
            return String.valueOf(call.invoke(sets, numbers));
        } catch (InvocationTargetException e) {
            return e.getCause().getClass().getSimpleName();
        }
    }
}
