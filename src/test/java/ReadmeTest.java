import java.io.IOException;
import java.lang.reflect.Method;
import java.nio.file.Files;
import java.nio.file.Path;
import java.util.regex.Matcher;
import java.util.regex.Pattern;

/** The example in README.md, made call by call, answers what stands behind each call there. */
public final class ReadmeTest {
    private static final Pattern CALL = Pattern.compile("x\\.(\\w+)\\(([^)]*)\\); *(?://(.*))?");

    public static void main(String[] args) throws IOException, ReflectiveOperationException {
        String[] lines = example(Files.readString(Path.of("README.md")));
        Due.yes("the example begins with a new object", lines[0].startsWith("PathOdds x = new PathOdds();"));
        PathOdds x = new PathOdds();
        for (int k = 1; k < lines.length; k++) {
            if (!lines[k].isBlank()) {
                answersAsWritten(x, lines[k]);
            }
        }
        Due.end();
    }

    private static String[] example(String readme) {
        String begin = "```java\n";
        int from = readme.indexOf(begin) + begin.length();
        return readme.substring(from, readme.indexOf("```", from)).split("\n");
    }

    /** A call that changes something is taken; every other one has its answer first in its comment. */
    private static void answersAsWritten(PathOdds x, String line) throws ReflectiveOperationException {
        Matcher call = CALL.matcher(line);
        Due.yes("is a call: " + line, call.matches());
        Method method = named(call.group(1));
        String got = String.valueOf(method.invoke(x, arguments(method, call.group(2))));
        boolean changes = method.getReturnType() == boolean.class;
        Due.same(line, got, changes ? "true" : call.group(3).strip().split(", | ")[0]);
    }

    private static Method named(String name) {
        for (Method m : PathOdds.class.getMethods()) {
            if (m.getName().equals(name)) {
                return m;
            }
        }
        throw new IllegalArgumentException("README.md calls " + name + ", which is not there");
    }

    private static Object[] arguments(Method method, String written) {
        Class<?>[] types = method.getParameterTypes();
        String[] parts = written.isEmpty() ? new String[0] : written.split(", ");
        Object[] arguments = new Object[parts.length];
        for (int k = 0; k < parts.length; k++) {
            boolean weight = k < types.length && types[k] == double.class;
            arguments[k] = weight ? (Object) Double.valueOf(parts[k]) : (Object) Integer.valueOf(parts[k]);
        }
        return arguments;
    }
}
