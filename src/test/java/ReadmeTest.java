import java.io.IOException;
import java.lang.reflect.Method;
import java.lang.reflect.Modifier;
import java.nio.file.Files;
import java.nio.file.Path;
import java.util.HashMap;
import java.util.List;
import java.util.Map;
import java.util.regex.Matcher;
import java.util.regex.Pattern;
import java.util.stream.Stream;

/** README.md: its example answers what it says, and it names every call of the face and every test. */
public final class ReadmeTest {
    private static final Path PLACE = Path.of("README.md");
    private static final String OBJECT = "PerhapsWas x = new PerhapsWas();";
    private static final Pattern CALL =
            Pattern.compile("(?:int (\\w+) = )?x\\.(\\w+)\\(([^)]*)\\); +// (-?\\d+)(?::.*)?");
    private static final Due due = new Due("ReadmeTest");

    private final PerhapsWas x = new PerhapsWas();
    private final Map<String, Integer> names = new HashMap<>();

    public static void main(String[] args) throws IOException, ReflectiveOperationException {
        String text = Files.readString(PLACE);
        new ReadmeTest().runExample(text);
        namesEveryCall(text);
        namesEveryTest(text);
        due.end();
    }

    private void runExample(String text) throws ReflectiveOperationException {
        int from = text.indexOf("```java\n");
        int to = text.indexOf("\n```\n", from + 1);
        due.holds("there is an example", from >= 0 && to > from);
        int calls = 0;
        for (String line : text.substring(from + 8, to).split("\n")) {
            Matcher call = CALL.matcher(line);
            boolean isCall = call.matches();
            due.holds("the line can be read: " + line,
                    isCall || line.isEmpty() || line.startsWith("//") || line.equals(OBJECT));
            if (isCall) {
                calls++;
                runCall(line, call);
            }
        }
        due.holds("the example has calls", calls > 20);
    }

    private void runCall(String line, Matcher call) throws ReflectiveOperationException {
        String[] told = call.group(3).isEmpty() ? new String[0] : call.group(3).split(", ");
        Method method = methodOf(call.group(2), told.length);
        Object[] given = new Object[told.length];
        for (int k = 0; k < told.length; k++) {
            int v = names.containsKey(told[k]) ? names.get(told[k]) : Integer.parseInt(told[k]);
            given[k] = method.getParameterTypes()[k] == long.class ? (Object) (long) v : (Object) v;
        }
        long got = ((Number) method.invoke(x, given)).longValue();
        due.is(line, got, Long.parseLong(call.group(4)));
        if (call.group(1) != null) {
            names.put(call.group(1), (int) got);
        }
    }

    private static List<Method> face() {
        return Stream.of(PerhapsWas.class.getDeclaredMethods()).filter(m -> Modifier.isPublic(m.getModifiers())).toList();
    }

    private static Method methodOf(String name, int parameters) {
        return face().stream().filter(m -> m.getName().equals(name) && m.getParameterCount() == parameters)
                .findFirst().orElseThrow();
    }

    private static void namesEveryCall(String text) {
        String calls = text.substring(text.indexOf("### The calls"), text.indexOf("### What is refused"));
        for (Method method : face()) {
            Matcher named = Pattern.compile("`" + method.getName() + "\\(([^)]*)\\)`").matcher(calls);
            boolean found = named.find();
            due.holds("the list of calls has " + method.getName(), found);
            int told = !found || named.group(1).isEmpty() ? 0 : named.group(1).split(", ").length;
            due.is("numbers that the list tells for " + method.getName(), told, method.getParameterCount());
        }
    }

    private static void namesEveryTest(String text) throws IOException {
        String tests = text.substring(text.indexOf("## Tests"));
        try (Stream<Path> files = Files.list(Path.of("src/test/java"))) {
            for (String file : files.map(f -> f.getFileName().toString()).filter(f -> f.endsWith("Test.java")).toList()) {
                String test = file.replace(".java", "");
                due.holds("README.md tells of " + test, tests.contains("`" + test + "`"));
            }
        }
        Matcher told = Pattern.compile("`(\\w+Test)`").matcher(tests);
        while (told.find()) {
            due.holds("there is a " + told.group(1), Files.exists(Path.of("src/test/java", told.group(1) + ".java")));
        }
    }
}
