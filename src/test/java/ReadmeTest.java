import java.io.IOException;
import java.lang.reflect.InvocationTargetException;
import java.lang.reflect.Method;
import java.lang.reflect.Modifier;
import java.nio.file.Files;
import java.nio.file.Path;
import java.util.Set;
import java.util.TreeSet;
import java.util.regex.Matcher;
import java.util.regex.Pattern;

/** The examples of README.md, line by line: each call answers what its comment begins with. */
public final class ReadmeTest {
    private static final Check CHECK = new Check("ReadmeTest");
    private static final String NEW_OFFICE = "PanelOffice office = new PanelOffice();";
    private static final Pattern CALL = Pattern.compile("office\\.(\\w+)\\(([^)]*)\\); +// (([^ :]+)(:.*)?|.*)");

    private static final Set<String> called = new TreeSet<>();
    private static PanelOffice office = new PanelOffice();

    public static void main(String[] args) throws IOException, IllegalAccessException {
        boolean inExample = false;
        for (String line : Files.readAllLines(Path.of("README.md"))) {
            if (line.startsWith("```")) {
                inExample = line.equals("```java");
            } else if (inExample) {
                runLine(line);
            }
        }
        CHECK.same("calls in the examples", faceNames().toString(), called.toString());
        CHECK.finish();
    }

    private static void runLine(String line) throws IllegalAccessException {
        if (line.equals(NEW_OFFICE)) {
            office = new PanelOffice();
            return;
        }
        Matcher parts = CALL.matcher(line);
        CHECK.holds("README has a call and a comment: " + line, parts.matches());
        if (parts.matches()) {
            Method method = methodOf(parts.group(1));
            called.add(method.getName());
            String got = answerOf(method, parts.group(2));
            // A call without an answer has a comment in words alone.
            CHECK.same(line, got.equals("null") ? "null" : String.valueOf(parts.group(4)), got);
        }
    }

    private static String answerOf(Method method, String written) throws IllegalAccessException {
        String[] words = written.isEmpty() ? new String[0] : written.split(", ");
        Object[] arguments = new Object[words.length];
        for (int i = 0; i < words.length; i++) {
            boolean isLong = method.getParameterTypes()[i] == long.class;
            // The casts keep ?: from making a long of both.
            arguments[i] = isLong ? (Object) Long.valueOf(words[i]) : (Object) Integer.valueOf(words[i]);
        }
        try {
            return String.valueOf(method.invoke(office, arguments));
        } catch (InvocationTargetException e) {
            return e.getCause().getClass().getSimpleName();
        }
    }

    private static Method methodOf(String name) {
        for (Method method : PanelOffice.class.getDeclaredMethods()) {
            if (method.getName().equals(name)) {
                return method;
            }
        }
        throw new IllegalStateException("README calls " + name + ", which the face has not");
    }

    private static Set<String> faceNames() {
        Set<String> names = new TreeSet<>();
        for (Method method : PanelOffice.class.getDeclaredMethods()) {
            if (Modifier.isPublic(method.getModifiers())) {
                names.add(method.getName());
            }
        }
        return names;
    }
}
