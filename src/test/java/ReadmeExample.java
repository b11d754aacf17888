import java.io.IOException;
import java.lang.reflect.InvocationTargetException;
import java.lang.reflect.Method;
import java.nio.file.Files;
import java.nio.file.Path;
import java.util.List;
import java.util.regex.Matcher;
import java.util.regex.Pattern;

/** README.md: each call of its example answers what stands behind it, and its table names each call. */
public final class ReadmeExample {
    private static final Pattern CALL = Pattern.compile("ring\\.(\\w+)\\((.*)\\); +// (-?\\d+|throws \\w+)(:.*)?");

    private ReadmeExample() {
    }

    private static Method methodOf(String name) {
        for (Method method : DrawerRing.class.getDeclaredMethods()) {
            if (method.getName().equals(name)) {
                return method;
            }
        }
        throw new IllegalArgumentException("README.md calls " + name + ", which is no method");
    }

    /** A number, or a sign between quotes, which may be the comma that parts the arguments. */
    private static Object[] argumentsOf(String written) {
        if (written.startsWith("'")) {
            return new Object[] {(int) written.charAt(1)};
        }
        if (written.isEmpty()) {
            return new Object[0];
        }
        String[] parts = written.split(", ");
        Object[] arguments = new Object[parts.length];
        for (int k = 0; k < parts.length; k++) {
            arguments[k] = Integer.parseInt(parts[k]);
        }
        return arguments;
    }

    private static String answerOf(DrawerRing ring, Matcher call) throws IllegalAccessException {
        try {
            return String.valueOf(methodOf(call.group(1)).invoke(ring, argumentsOf(call.group(2))));
        } catch (InvocationTargetException e) {
            return "throws " + e.getCause().getClass().getSimpleName();
        }
    }

    private static void example(List<String> lines) throws IllegalAccessException {
        DrawerRing ring = new DrawerRing();
        int calls = 0;
        for (String line : lines) {
            if (line.startsWith("ring.")) {
                Matcher call = CALL.matcher(line);
                if (!call.matches()) {
                    Due.report("README.md tells no call with its answer: " + line);
                    continue;
                }
                String got = answerOf(ring, call);
                Due.isTrue(line + " (answered " + got + ")", got.equals(call.group(3)));
                calls++;
            }
        }
        Due.isTrue("README.md has an example", calls >= 10);
    }

    private static void table(String readme) {
        for (Method method : DrawerRing.class.getMethods()) {
            if (method.getDeclaringClass() == DrawerRing.class) {
                Due.isTrue("README.md names " + method.getName(), readme.contains("`" + method.getName() + "("));
            }
        }
    }

    public static void main(String[] args) throws IOException, IllegalAccessException {
        Path readme = Path.of("README.md");
        example(Files.readAllLines(readme));
        table(Files.readString(readme));
        Due.end();
    }
}
