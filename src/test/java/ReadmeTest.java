import java.io.IOException;
import java.lang.reflect.InvocationTargetException;
import java.lang.reflect.Method;
import java.lang.reflect.Modifier;
import java.nio.file.Files;
import java.nio.file.Path;
import java.util.ArrayList;
import java.util.HashMap;
import java.util.List;
import java.util.Map;
import java.util.TreeSet;
import java.util.regex.Matcher;
import java.util.regex.Pattern;

/** README.md says what is so: its example is called line by line, and its table has the calls of the class. */
public final class ReadmeTest extends TestBase {
    private static final String MAKING = "Rosterproof roster = new Rosterproof();";
    // A call, the name that its answer gets if there is one, and the answer up to a colon.
    private static final Pattern CALL =
            Pattern.compile("(?:(\\w+) (\\w+) = )?roster\\.(\\w+)\\((.*)\\); +// (throws \\w+|[^: ]+)(?:: .*)?");
    private static final Pattern ROW = Pattern.compile("\\| `(\\w+ \\w+)\\((.*)\\)` \\|(.+)\\|(.*)\\|");
    private static final Pattern EXCEPTION = Pattern.compile("`(\\w+Exception)`");

    private static List<String> lines() throws IOException {
        return Files.readAllLines(Path.of("README.md"));
    }

    private static List<String> example() throws IOException {
        List<String> example = new ArrayList<>();
        boolean isInside = false;
        for (String line : lines()) {
            if (line.startsWith("```")) {
                isInside = line.equals("```java");
            } else if (isInside && !line.isEmpty()) {
                example.add(line);
            }
        }
        return example;
    }

    private static Map<String, Method> calls() {
        Map<String, Method> calls = new HashMap<>();
        for (Method method : Rosterproof.class.getDeclaredMethods()) {
            if (Modifier.isPublic(method.getModifiers())) {
                calls.put(method.getName(), method);
            }
        }
        return calls;
    }

    private static String[] listed(String list) {
        return list.isEmpty() ? new String[0] : list.split(", ");
    }

    private static Object valueOf(String written, Map<String, Object> names) {
        if (names.containsKey(written)) {
            return names.get(written);
        }
        return written.equals("true") || written.equals("false")
                ? Boolean.valueOf(written) : (Object) Integer.valueOf(written);
    }

    private static Object called(Rosterproof roster, Method method, Object[] arguments) throws IllegalAccessException {
        try {
            return method.invoke(roster, arguments);
        } catch (InvocationTargetException e) {
            return "throws " + e.getCause().getClass().getSimpleName();
        }
    }

    private static void callLine(Rosterproof roster, Matcher call, Map<String, Object> names)
            throws IllegalAccessException {
        Method method = calls().get(call.group(3));
        String[] written = listed(call.group(4));
        Object[] arguments = new Object[written.length];
        for (int i = 0; i < written.length; i++) {
            arguments[i] = valueOf(written[i], names);
        }
        Object answer = called(roster, method, arguments);
        String told = answer instanceof Character ? "'" + answer + "'" : answer.toString();
        due(call.group() + " answers " + told, call.group() + " answers " + call.group(5));
        if (call.group(2) != null) {
            due(call.group(1), method.getReturnType().getName());
            names.put(call.group(2), answer);
        }
    }

    private static void exampleAnswersWhatIsWritten() throws IOException, IllegalAccessException {
        List<String> example = example();
        due(example.get(0), MAKING);
        Rosterproof roster = new Rosterproof();
        Map<String, Object> names = new HashMap<>();
        for (String line : example.subList(1, example.size())) {
            Matcher call = CALL.matcher(line);
            boolean isCall = call.matches();
            due(line + (isCall ? "" : " is no call"), line);
            if (isCall) {
                callLine(roster, call, names);
            }
        }
    }

    private static String withExceptions(Method method) {
        List<String> exceptions = new ArrayList<>();
        for (Class<?> type : method.getExceptionTypes()) {
            exceptions.add(type.getSimpleName());
        }
        return method.getReturnType() + " " + method.getName() + " " + method.getParameterCount() + " " + exceptions;
    }

    private static String withExceptions(Matcher row) {
        List<String> exceptions = new ArrayList<>();
        Matcher exception = EXCEPTION.matcher(row.group(4));
        while (exception.find()) {
            exceptions.add(exception.group(1));
        }
        return row.group(1) + " " + listed(row.group(2)).length + " " + exceptions;
    }

    private static void tableHasTheCallsOfTheClass() throws IOException {
        TreeSet<String> want = new TreeSet<>();
        for (Method method : calls().values()) {
            want.add(withExceptions(method));
        }
        List<String> got = new ArrayList<>();
        for (String line : lines()) {
            Matcher row = ROW.matcher(line);
            if (row.matches()) {
                got.add(withExceptions(row));
            }
        }
        due(new TreeSet<>(got), want);
        due(got.size(), want.size());
    }

    private static void testsAreAllNamed() throws IOException {
        String text = String.join("\n", lines());
        try (var files = Files.list(Path.of("src/test/java"))) {
            files.map(file -> file.getFileName().toString()).filter(name -> name.endsWith("Test.java"))
                    .map(name -> "`" + name.substring(0, name.length() - 5) + "`")
                    .forEach(name -> due(text.contains("- " + name + ":") ? name : name + " is not named", name));
        }
    }

    public static void main(String[] args) {
        runAll(ReadmeTest.class);
    }
}
