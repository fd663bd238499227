import java.io.IOException;
import java.lang.reflect.Method;
import java.lang.reflect.Modifier;
import java.nio.file.DirectoryStream;
import java.nio.file.Files;
import java.nio.file.Path;
import java.util.Set;
import java.util.TreeSet;
import java.util.regex.Matcher;
import java.util.regex.Pattern;

/** README.md as it stands: its calls answer what it says, and it leaves out no call and no test. */
final class ReadmeTest {
    private static final String NEW_OBJECT = "WorkOrders x = new WorkOrders();";
    private static final Pattern CALL = Pattern.compile("x\\.(\\w+)\\((.*)\\); +// (-?\\d+)(:.*)?");
    private static final Set<String> CALLED = new TreeSet<>();
    private static WorkOrders x;

    public static void main(String[] args) throws IOException, ReflectiveOperationException {
        String text = Files.readString(Path.of("README.md"));
        boolean isJava = false;
        for (String line : text.split("\n")) {
            if (line.startsWith("```")) {
                isJava = line.equals("```java");
            } else if (isJava) {
                lookAt(line);
            }
        }
        noCallIsLeftOut();
        noTestIsLeftOut(text);
        Due.end();
    }

    private static void lookAt(String line) throws ReflectiveOperationException {
        if (line.equals(NEW_OBJECT)) {
            x = new WorkOrders();
            return;
        }
        Matcher call = CALL.matcher(line);
        Due.holds("a call on an object, with what it answers: " + line, x != null && call.matches());
        if (x != null && call.matches()) {
            Due.is(line, answer(call.group(1), call.group(2)), Long.parseLong(call.group(3)));
        }
    }

    private static long answer(String name, String told) throws ReflectiveOperationException {
        String[] numbers = told.isEmpty() ? new String[0] : told.split(", ");
        for (Method method : WorkOrders.class.getDeclaredMethods()) {
            if (method.getName().equals(name) && method.getParameterCount() == numbers.length) {
                CALLED.add(name);
                return ((Number) method.invoke(x, valuesOf(numbers))).longValue();
            }
        }
        Due.holds("there is a call " + name + " of " + numbers.length, false);
        return 0;
    }

    private static Object[] valuesOf(String[] numbers) {
        Object[] values = new Object[numbers.length];
        for (int i = 0; i < numbers.length; i++) {
            if (numbers[i].equals("true") || numbers[i].equals("false")) {
                values[i] = Boolean.valueOf(numbers[i]);
            } else {
                values[i] = numbers[i].equals("WorkOrders.NONE") ? WorkOrders.NONE : Integer.parseInt(numbers[i]);
            }
        }
        return values;
    }

    private static void noCallIsLeftOut() {
        for (Method method : WorkOrders.class.getDeclaredMethods()) {
            if (Modifier.isPublic(method.getModifiers())) {
                Due.holds("README.md shows " + method.getName(), CALLED.contains(method.getName()));
            }
        }
    }

    private static void noTestIsLeftOut(String text) throws IOException {
        try (DirectoryStream<Path> tests = Files.newDirectoryStream(Path.of("src/test/java"), "*Test.java")) {
            for (Path test : tests) {
                String name = test.getFileName().toString().replace(".java", "");
                Due.holds("README.md tells of " + name, text.contains("`" + name + "`"));
            }
        }
    }
}
