import java.io.IOException;
import java.lang.reflect.Method;
import java.nio.file.Files;
import java.nio.file.Path;
import java.util.Map;
import java.util.TreeMap;
import java.util.regex.Matcher;
import java.util.regex.Pattern;

/** README.md tells the truth: each call of its example is made, and answers what stands behind it. */
public final class ReadmeTest {
    private static final Pattern EXAMPLE = Pattern.compile("(?s)```java\n(.*?)```");
    private static final String MAKING = "TreeServer server = new TreeServer();";
    private static final Pattern CALL = Pattern.compile("server\\.(\\w+)\\(([^)]*)\\);\\s*(?:// ([^:]*).*)?");

    private final TreeServer server = new TreeServer();
    private final Map<String, Method> face = new TreeMap<>();
    private final String text;

    private ReadmeTest(String text) {
        this.text = text;
        for (Method method : TreeServer.class.getMethods()) {
            if (method.getDeclaringClass() == TreeServer.class) {
                face.put(method.getName(), method);
            }
        }
    }

    public static void main(String[] args) throws IOException, ReflectiveOperationException {
        ReadmeTest test = new ReadmeTest(Files.readString(Path.of("README.md")));
        test.exampleAnswersWhatItSays();
        test.everyCallIsTold();
        test.everyTestIsTold();
        Check.end();
    }

    private void exampleAnswersWhatItSays() throws ReflectiveOperationException {
        Matcher example = EXAMPLE.matcher(text);
        Check.is("an example", example.find(), true);
        int checked = 0;
        for (String line : example.group(1).split("\n")) {
            Matcher call = CALL.matcher(line);
            if (!call.matches()) {
                boolean known = line.isEmpty() || line.startsWith("//") || line.equals(MAKING);
                Check.is("a line that is no call: " + line, known, true);
                continue;
            }
            Object answer = make(face.get(call.group(1)), call.group(2).split(", *"));
            if (call.group(3) != null && answer != null) {
                Check.is(line, answer, valueOf(call.group(3).trim(), answer.getClass()));
                checked++;
            }
        }
        Check.is("answers in the example", checked > 10, true);
    }

    private Object make(Method method, String[] arguments) throws ReflectiveOperationException {
        Class<?>[] types = method.getParameterTypes();
        Object[] values = new Object[types.length];
        for (int i = 0; i < types.length; i++) {
            values[i] = valueOf(arguments[i], types[i] == long.class ? Long.class : Integer.class);
        }
        return method.invoke(server, values);
    }

    private static Object valueOf(String written, Class<?> type) {
        if (type == Boolean.class) {
            return Boolean.valueOf(written);
        }
        boolean hex = written.startsWith("0x");
        String digits = written.replace("0x", "").replace("L", "");
        long value = hex ? Long.parseUnsignedLong(digits, 16) : Long.parseLong(digits);
        if (type == Long.class) {
            return value;
        }
        return (int) value;
    }

    private void everyCallIsTold() {
        for (String name : face.keySet()) {
            Check.is("a row for " + name, text.contains("| `" + name + "("), true);
        }
    }

    private void everyTestIsTold() throws IOException {
        try (var files = Files.list(Path.of("src/test/java"))) {
            files.map(file -> file.getFileName().toString().replace(".java", ""))
                .forEach(name -> Check.is("a word on " + name, text.contains("`" + name + "`"), true));
        }
    }
}
