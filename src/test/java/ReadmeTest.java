import java.io.IOException;
import java.lang.reflect.Method;
import java.nio.file.Files;
import java.nio.file.Path;
import java.util.regex.Matcher;
import java.util.regex.Pattern;

// The example in README.md answers what its comments say, and every public method is in README.md.
// It is run from the project's own directory, as .ci/run does.
public final class ReadmeTest {
    private static final Pattern CALL = Pattern.compile("finder\\.(\\w+)\\(([-\\d, ]*)\\);\\s*// (-?\\w+)");

    private static int wrong = 0;
    private static int calls = 0;

    public static void main(String[] args) throws IOException, ReflectiveOperationException {
        CoreFinder finder = new CoreFinder();
        String readme = Files.readString(Path.of("README.md"));
        for (String line : readme.split("\n")) {
            if (line.startsWith("finder.")) {
                callAsWritten(finder, line);
            }
        }
        for (Method method : CoreFinder.class.getMethods()) {
            boolean own = method.getDeclaringClass() == CoreFinder.class;
            if (own && !readme.contains("`" + method.getName() + "(")) {
                fault("README.md does not tell of " + method.getName());
            }
        }
        if (calls == 0) {
            fault("README.md has no example");
        }
        System.out.println(calls + " calls of the example, " + wrong + " faults");
        if (wrong != 0) {
            System.exit(1);
        }
    }

    private static void callAsWritten(CoreFinder finder, String line) throws ReflectiveOperationException {
        Matcher call = CALL.matcher(line);
        if (!call.lookingAt()) {
            fault("not a call with its answer: " + line);
            return;
        }
        calls++;
        String[] words = call.group(2).isBlank() ? new String[0] : call.group(2).split(",\\s*");
        Class<?>[] types = new Class<?>[words.length];
        Object[] numbers = new Object[words.length];
        for (int i = 0; i < words.length; i++) {
            types[i] = int.class;
            numbers[i] = Integer.valueOf(words[i]);
        }
        String got = "" + CoreFinder.class.getMethod(call.group(1), types).invoke(finder, numbers);
        if (!got.equals(call.group(3))) {
            fault("answered " + got + ": " + line);
        }
    }

    private static void fault(String what) {
        wrong++;
        System.out.println(what);
    }
}
