import java.io.IOException;
import java.lang.reflect.Method;
import java.nio.file.Files;
import java.nio.file.Path;
import java.util.Set;
import java.util.TreeSet;
import java.util.regex.Matcher;
import java.util.regex.Pattern;

/**
 * The example in README.md: each call answers what the comment behind it begins with, and every
 * call of the face is shown. It is read from the file, so that it can't be left behind.
 */
public final class ReadmeTest {
    private static final Pattern EXAMPLE = Pattern.compile("```java\n(.*?)```", Pattern.DOTALL);
    private static final Pattern CALL = Pattern.compile("m\\.(\\w+)\\(([^)]*)\\); +// ([^ ,:;]+).*");
    private static final String FIRST_LINE = "TagMemory m = new TagMemory();";

    private static final Due DUE = new Due();

    public static void main(String[] args) throws IOException, ReflectiveOperationException {
        Matcher example = EXAMPLE.matcher(Files.readString(Path.of("README.md")));
        if (example.find()) {
            tryExample(example.group(1).split("\n"));
        } else {
            DUE.report("README.md has no example");
        }
        DUE.end();
    }

    private static void tryExample(String[] lines) throws ReflectiveOperationException {
        DUE.is("the example's first line", lines[0], FIRST_LINE);
        TagMemory m = new TagMemory();
        Set<String> shown = new TreeSet<>();
        for (int n = 1; n < lines.length; n++) {
            Matcher call = CALL.matcher(lines[n]);
            if (call.matches()) {
                shown.add(call.group(1));
                tryCall(m, call);
            } else {
                DUE.report("README.md: not a call with its answer: " + lines[n]);
            }
        }
        DUE.is("the calls that the example shows", shown.toString(), namesOfTheFace().toString());
    }

    private static void tryCall(TagMemory m, Matcher call) throws ReflectiveOperationException {
        Method method = methodOf(call.group(1));
        Object got = method.invoke(m, argumentsOf(method, call.group(2)));
        if (method.getReturnType() != void.class) {
            DUE.is("README.md: " + call.group(), got.toString(), call.group(3));
        }
    }

    private static Object[] argumentsOf(Method method, String texts) {
        Class<?>[] types = method.getParameterTypes();
        Object[] arguments = new Object[types.length];
        String[] each = texts.split(", ");
        for (int n = 0; n < types.length; n++) {
            arguments[n] = types[n] == boolean.class ? (Object) Boolean.valueOf(each[n]) : Integer.valueOf(each[n]);
        }
        return arguments;
    }

    private static Method methodOf(String name) throws NoSuchMethodException {
        for (Method method : TagMemory.class.getMethods()) {
            if (method.getName().equals(name)) {
                return method;
            }
        }
        throw new NoSuchMethodException(name);
    }

    private static Set<String> namesOfTheFace() {
        Set<String> names = new TreeSet<>();
        for (Method method : TagMemory.class.getMethods()) {
            if (method.getDeclaringClass() == TagMemory.class) {
                names.add(method.getName());
            }
        }
        return names;
    }
}
