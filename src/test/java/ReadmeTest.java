import java.io.IOException;
import java.lang.reflect.Field;
import java.lang.reflect.Method;
import java.lang.reflect.Modifier;
import java.nio.file.Files;
import java.nio.file.Path;
import java.util.regex.Matcher;
import java.util.regex.Pattern;

/** The calls that README.md shows answer what it says behind them, and it names every call and every constant. */
public final class ReadmeTest {
    private static final Pattern CALL = Pattern.compile("x\\.(\\w+)\\(([^)]*)\\); +// ([^:]+)(: .+)?");
    private static final String NEW_OBJECT = "ShadowMachine x = new ShadowMachine();";

    public static void main(String[] args) throws IOException, ReflectiveOperationException {
        String page = Files.readString(Path.of(System.getProperty("readme")));
        examples(page);
        everyCall(page);
        everyConstant(page);
        Check.end();
    }

    private static void examples(String page) throws ReflectiveOperationException {
        Matcher block = Pattern.compile("(?s)```java\n(.*?)```").matcher(page);
        int blocks = 0;
        while (block.find()) {
            blocks++;
            ShadowMachine x = null;
            for (String line : block.group(1).split("\n")) {
                if (line.equals(NEW_OBJECT)) {
                    x = new ShadowMachine();
                } else {
                    answered(x, line);
                }
            }
        }
        Check.due("examples on the page", blocks, 3);
    }

    private static void answered(ShadowMachine x, String line) throws ReflectiveOperationException {
        Matcher call = CALL.matcher(line);
        boolean whole = x != null && call.matches();
        Check.holds("an object, a call and its answer: " + line, whole);
        if (whole) {
            Method method = methodOf(call.group(1));
            Object answer = method.invoke(x, arguments(method, call.group(2).split(", ")));
            Check.due(line, ((Number) answer).longValue(), numberOf(call.group(3)));
        }
    }

    private static Method methodOf(String name) throws NoSuchMethodException {
        for (Method method : ShadowMachine.class.getDeclaredMethods()) {
            if (method.getName().equals(name)) {
                return method;
            }
        }
        throw new NoSuchMethodException(name);
    }

    private static Object[] arguments(Method method, String[] texts) {
        Class<?>[] types = method.getParameterTypes();
        Object[] arguments = new Object[texts.length];
        for (int i = 0; i < texts.length; i++) {
            if (i < types.length && types[i] == long.class) {
                arguments[i] = Long.decode(texts[i]);
            } else {
                arguments[i] = Integer.decode(texts[i]);
            }
        }
        return arguments;
    }

    private static long numberOf(String answer) throws ReflectiveOperationException {
        if (answer.matches("[A-Z]+")) {
            return ((Number) ShadowMachine.class.getField(answer).get(null)).longValue();
        }
        return Long.decode(answer);
    }

    private static void everyCall(String page) {
        for (Method method : ShadowMachine.class.getDeclaredMethods()) {
            if (Modifier.isPublic(method.getModifiers())) {
                Matcher told = Pattern.compile("`" + method.getName() + "\\(([^)]*)\\)`").matcher(page);
                boolean found = told.find();
                Check.holds("the page tells " + method.getName(), found);
                if (found) {
                    Check.due("arguments of " + method.getName(), told.group(1).split(", ").length, method.getParameterCount());
                }
            }
        }
    }

    private static void everyConstant(String page) throws IllegalAccessException {
        for (Field field : ShadowMachine.class.getFields()) {
            Check.holds("the page tells " + field.getName(), page.contains("| `" + field.getName() + "` | " + field.get(null) + " |"));
        }
    }
}
