import java.io.IOException;
import java.lang.reflect.Method;
import java.lang.reflect.Modifier;
import java.nio.file.Files;
import java.nio.file.Path;
import java.util.HashMap;
import java.util.Map;
import java.util.regex.Matcher;
import java.util.regex.Pattern;

// README.md tells how to use the class: its calls must answer what it says of them, and it must name every call.
public final class ReadmeTests {
    private static final Pattern CALL = Pattern.compile("x\\.(\\w+)\\((.*?)\\);\\s*// (-?\\d+): .+");
    private static final Map<String, Method> METHODS = new HashMap<>();
    private static int wrong = 0;

    private static void must(boolean holds, String what) {
        if (!holds) {
            wrong++;
            System.out.println(what);
        }
    }

    private static Object argument(Class<?> type, String text) {
        if (type == boolean.class) {
            return Boolean.valueOf(text);
        }
        long v = Long.decode(text.replace("L", ""));
        return type == long.class ? (Object) v : (Object) (int) v;
    }

    private static int answerOf(SlipWheel x, String name, String texts) throws ReflectiveOperationException {
        Method method = METHODS.get(name);
        Class<?>[] types = method.getParameterTypes();
        String[] parts = texts.isEmpty() ? new String[0] : texts.split(", ");
        Object[] arguments = new Object[types.length];
        for (int i = 0; i < types.length; i++) {
            arguments[i] = argument(types[i], parts[i]);
        }
        return (Integer) method.invoke(x, arguments);
    }

    private static void runExample(String readme) throws ReflectiveOperationException {
        int from = readme.indexOf("```java\n") + 8;
        String[] lines = readme.substring(from, readme.indexOf("```", from)).split("\n");
        must(lines[0].equals("SlipWheel x = new SlipWheel();"), "the example makes an object first");
        SlipWheel x = new SlipWheel();
        for (int i = 1; i < lines.length; i++) {
            Matcher call = CALL.matcher(lines[i]);
            if (!call.matches()) {
                must(false, "not a call with its answer: " + lines[i]);
                continue;
            }
            int answer = answerOf(x, call.group(1), call.group(2));
            must(answer == Integer.parseInt(call.group(3)), lines[i] + ": answered " + answer);
        }
    }

    public static void main(String[] args) throws IOException, ReflectiveOperationException {
        String readme = Files.readString(Path.of("README.md"));
        for (Method method : SlipWheel.class.getDeclaredMethods()) {
            if (Modifier.isPublic(method.getModifiers())) {
                METHODS.put(method.getName(), method);
                must(readme.contains("`" + method.getName() + "`"), "README.md does not name " + method.getName());
            }
        }
        must(readme.contains("bash .ci/run"), "README.md does not say how to run the tests");
        runExample(readme);
        System.out.println(wrong == 0 ? "README.md holds" : wrong + " places of README.md do not hold");
        if (wrong != 0) {
            System.exit(1);
        }
    }
}
