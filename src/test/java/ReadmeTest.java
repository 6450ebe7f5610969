import java.io.IOException;
import java.lang.reflect.Method;
import java.lang.reflect.Modifier;
import java.nio.file.Files;
import java.nio.file.Path;
import java.util.Set;
import java.util.TreeSet;
import java.util.regex.Matcher;
import java.util.regex.Pattern;

/** README.md tells every call, and what its example says is what the class answers. */
public final class ReadmeTest {
    private static final Due DUE = new Due();
    private static final Pattern EXAMPLE = Pattern.compile("x\\.(\\w+)\\((.*)\\);\\s+// (true|false|-?\\d+)\\b.*");
    private static final Pattern TABLE_ROW = Pattern.compile("\\| `(\\w+)\\((.*?)\\)` \\|.*");

    public static void main(String[] args) throws IOException, ReflectiveOperationException {
        ConnectivitySuite x = new ConnectivitySuite();
        Set<String> inExample = new TreeSet<>();
        Set<String> inTable = new TreeSet<>();
        for (String line : Files.readAllLines(Path.of("README.md"))) {
            Matcher example = EXAMPLE.matcher(line);
            Matcher row = TABLE_ROW.matcher(line);
            if (example.matches()) {
                inExample.add(name(example));
                DUE.is("the example's " + line, answer(x, example), number(example.group(3)));
            } else if (row.matches()) {
                inTable.add(name(row));
            } else {
                DUE.is("a row that says no answer: " + line, line.startsWith("x."), false);
            }
        }
        Set<String> calls = publicCalls();
        DUE.is("the example has " + inExample + " of " + calls, inExample.equals(calls), true);
        DUE.is("the table has " + inTable + " of " + calls, inTable.equals(calls), true);
        DUE.end();
    }

    private static Set<String> publicCalls() {
        Set<String> calls = new TreeSet<>();
        for (Method method : ConnectivitySuite.class.getDeclaredMethods()) {
            if (Modifier.isPublic(method.getModifiers())) {
                calls.add(method.getName() + "/" + method.getParameterCount());
            }
        }
        return calls;
    }

    private static String name(Matcher call) {
        return call.group(1) + "/" + arguments(call).length;
    }

    private static String[] arguments(Matcher call) {
        return call.group(2).isEmpty() ? new String[0] : call.group(2).split(", ");
    }

    private static int answer(ConnectivitySuite x, Matcher call) throws ReflectiveOperationException {
        String[] texts = arguments(call);
        Class<?>[] types = new Class<?>[texts.length];
        Object[] values = new Object[texts.length];
        for (int i = 0; i < texts.length; i++) {
            types[i] = int.class;
            values[i] = Integer.valueOf(texts[i]);
        }
        return number(ConnectivitySuite.class.getMethod(call.group(1), types).invoke(x, values).toString());
    }

    private static int number(String answer) {
        if (answer.equals("true") || answer.equals("false")) {
            return answer.equals("true") ? 1 : 0;
        }
        return Integer.parseInt(answer);
    }
}
