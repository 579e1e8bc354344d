import java.io.IOException;
import java.lang.reflect.Method;
import java.lang.reflect.Modifier;
import java.nio.file.Files;
import java.nio.file.Path;
import java.util.regex.Matcher;
import java.util.regex.Pattern;

/** The program in README.md, call by call, with the answers that stand behind its calls. */
public final class ReadmeTest {
    private static final Path README = Path.of("README.md");
    private static final Pattern CALL = Pattern.compile("spline\\.(\\w+)\\((.*)\\);(?:\\s*// ([^\\s,]+).*)?");

    private static final Checks checks = new Checks("ReadmeTest");

    private static Method methodOf(String name) {
        for (Method method : MonotoneSpline.class.getMethods()) {
            if (method.getName().equals(name)) {
                return method;
            }
        }
        throw new IllegalArgumentException("README.md calls " + name);
    }

    private static Object[] argumentsOf(Method method, String text) {
        Class<?>[] types = method.getParameterTypes();
        String[] written = text.isEmpty() ? new String[0] : text.split(", ");
        Object[] arguments = new Object[types.length];
        for (int i = 0; i < types.length; i++) {
            if (types[i] == int.class) {
                arguments[i] = Integer.valueOf(written[i]);
            } else {
                arguments[i] = Double.valueOf(written[i]);
            }
        }
        return arguments;
    }

    public static void main(String[] args) throws IOException, ReflectiveOperationException {
        String[] parts = Files.readString(README).split("```(java)?\n");
        checks.same("one program in README.md", parts.length, 3);
        MonotoneSpline spline = new MonotoneSpline();
        int calls = 0;
        for (String line : parts[1].split("\n")) {
            Matcher call = CALL.matcher(line.trim());
            if (call.matches()) {
                Method method = methodOf(call.group(1));
                Object answer = method.invoke(spline, argumentsOf(method, call.group(2)));
                checks.same(line.trim(), String.valueOf(answer), String.valueOf(call.group(3)));
                calls++;
            }
        }
        checks.isTrue("its calls were found", calls > 10);
        for (Method method : MonotoneSpline.class.getDeclaredMethods()) {
            if (Modifier.isPublic(method.getModifiers())) {
                checks.isTrue("README.md names " + method.getName(), parts[2].contains("`" + method.getName() + "`"));
            }
        }
        checks.end();
    }
}
