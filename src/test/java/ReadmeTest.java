import java.lang.reflect.InvocationTargetException;
import java.lang.reflect.Method;
import java.nio.file.Files;
import java.nio.file.Path;
import java.util.Arrays;
import java.util.Set;
import java.util.TreeSet;
import java.util.regex.Matcher;
import java.util.regex.Pattern;

/** The calls of README.md's example answer what the comment behind each says first. */
public final class ReadmeTest {
    private static final Pattern CALL = Pattern.compile("s\\.(\\w+)\\((.*)\\);\\s+// ([^:]+): .+");
    private static final Pattern ROW = Pattern.compile("\\| `(\\w+)\\((.*)\\)` \\|.*");

    private final Due due = new Due();
    private final FilterStack object = new FilterStack();
    private final Set<String> called = new TreeSet<>();
    private final Set<String> told = new TreeSet<>();

    public static void main(String[] args) throws Exception {
        ReadmeTest test = new ReadmeTest();
        for (String line : Files.readAllLines(Path.of("README.md"))) {
            test.read(line);
        }
        Set<String> missing = methods();
        missing.removeAll(test.told);
        test.due.same("calls that the table does not tell", missing, Set.of());
        test.due.same("calls in the example", test.called.size() > 10, true);
        test.due.end();
    }

    private void read(String line) throws Exception {
        Matcher row = ROW.matcher(line);
        if (row.matches()) {
            told.add(row.group(1) + "/" + split(row.group(2)).length);
        }
        if (line.startsWith("s.")) {
            Matcher call = CALL.matcher(line);
            due.same("the form of " + line, call.matches(), true);
            due.same(line, answer(call.group(1), split(call.group(2))), want(call.group(3)));
            called.add(call.group(1));
        }
    }

    private static String[] split(String list) {
        return list.isEmpty() ? new String[0] : list.split(", ");
    }

    private static String want(String text) {
        return text.equals("ALLOW") ? String.valueOf(FilterStack.ALLOW) : text;
    }

    private String answer(String name, String[] texts) throws Exception {
        Class<?>[] types = new Class<?>[texts.length];
        Arrays.fill(types, int.class);
        Object[] arguments = new Object[texts.length];
        for (int i = 0; i < texts.length; i++) {
            arguments[i] = Integer.decode(texts[i]);
        }
        try {
            return String.valueOf(FilterStack.class.getMethod(name, types).invoke(object, arguments));
        } catch (InvocationTargetException e) {
            return e.getCause().getClass().getSimpleName();
        }
    }

    private static Set<String> methods() {
        Set<String> names = new TreeSet<>();
        for (Method method : FilterStack.class.getMethods()) {
            if (method.getDeclaringClass() == FilterStack.class) {
                names.add(method.getName() + "/" + method.getParameterCount());
            }
        }
        return names;
    }
}
