import java.lang.reflect.Method;
import java.lang.reflect.Modifier;
import java.nio.file.Files;
import java.nio.file.Path;
import java.util.ArrayList;
import java.util.List;
import java.util.Set;
import java.util.TreeSet;
import java.util.regex.Matcher;
import java.util.regex.Pattern;

/** README.md: its examples answer as it says, and it leaves out no call and no test. */
final class ReadmeTest {
    private static final Path README = Path.of("README.md");
    private static final Path TESTS = Path.of("src/test/java");
    private static final String MAKING = "HexWorkbench x = new HexWorkbench();";
    private static final Pattern CALL = Pattern.compile("x\\.(\\w+)\\(([^)]*)\\); +// (\\w+|-\\d+)(:.*)?");

    public static void main(String[] args) throws Exception {
        Due.runAll(ReadmeTest.class);
    }

    /** The lines of all Java examples, in their order. */
    private static List<String> exampleLines() throws Exception {
        List<String> lines = new ArrayList<>();
        boolean inside = false;
        for (String line : Files.readAllLines(README)) {
            if (line.startsWith("```")) {
                inside = line.equals("```java");
            } else if (inside) {
                lines.add(line);
            }
        }
        return lines;
    }

    private static Method methodNamed(String name) {
        for (Method method : HexWorkbench.class.getDeclaredMethods()) {
            if (method.getName().equals(name) && Modifier.isPublic(method.getModifiers())) {
                return method;
            }
        }
        throw new IllegalStateException("there is no " + name);
    }

    private static Object[] arguments(Method method, String text) {
        Object[] values = new Object[method.getParameterCount()];
        String[] parts = text.isEmpty() ? new String[0] : text.split(", ");
        if (parts.length != values.length) {
            throw new IllegalStateException(method + " does not take " + text);
        }
        for (int i = 0; i < values.length; i++) {
            long value = parts[i].startsWith("'") ? parts[i].charAt(1) : Long.parseLong(parts[i]);
            boolean wide = method.getParameterTypes()[i] == long.class;
            values[i] = wide ? (Object) value : (Object) Math.toIntExact(value);
        }
        return values;
    }

    private static long answer(String text) throws Exception {
        boolean named = Character.isUpperCase(text.charAt(0));
        return named ? HexWorkbench.class.getField(text).getInt(null) : Long.parseLong(text);
    }

    static void examplesAnswerAsTheySay() throws Exception {
        HexWorkbench x = null;
        for (String line : exampleLines()) {
            if (line.startsWith(MAKING)) {
                x = new HexWorkbench();
                continue;
            }
            Matcher call = CALL.matcher(line);
            Due.holds("a call and its answer: " + line, call.matches());
            if (call.matches()) {
                Method method = methodNamed(call.group(1));
                Number got = (Number) method.invoke(x, arguments(method, call.group(2)));
                Due.is(line, got.longValue(), answer(call.group(3)));
            }
        }
    }

    private static Set<String> calledInExamples() throws Exception {
        Set<String> names = new TreeSet<>();
        for (String line : exampleLines()) {
            Matcher call = CALL.matcher(line);
            if (call.matches()) {
                names.add(call.group(1));
            }
        }
        return names;
    }

    static void everyCallHasAnExample() throws Exception {
        Set<String> names = calledInExamples();
        for (Method method : HexWorkbench.class.getDeclaredMethods()) {
            boolean open = Modifier.isPublic(method.getModifiers());
            Due.holds(method.getName() + " has an example", !open || names.contains(method.getName()));
        }
    }

    static void everyTestIsNamed() throws Exception {
        String page = Files.readString(README);
        try (var files = Files.list(TESTS)) {
            for (Path file : files.toList()) {
                String name = file.getFileName().toString().replace(".java", "");
                boolean named = page.contains("| " + name + " |") || name.endsWith("BoundsTest");
                Due.holds(name + " is named", !name.endsWith("Test") || named);
            }
        }
    }
}
