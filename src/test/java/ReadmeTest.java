import java.io.IOException;
import java.lang.reflect.Method;
import java.nio.file.Files;
import java.nio.file.Path;
import java.util.HashSet;
import java.util.List;
import java.util.Set;
import java.util.regex.Matcher;
import java.util.regex.Pattern;

/** Does what README.md's examples do, line by line, and holds each answer against the one told there. */
public final class ReadmeTest {
    private static final Pattern FEED = Pattern.compile("feed\\(x, \"(.*)\"\\);");
    private static final Pattern CALL = Pattern.compile("x\\.(\\w+)\\((.*)\\); +// (-?\\d+): .*");

    private RunWatcher x = null;
    private final Set<String> called = new HashSet<>();

    public static void main(String[] args) throws IOException, ReflectiveOperationException {
        ReadmeTest test = new ReadmeTest();
        boolean inCode = false;
        for (String line : Files.readAllLines(Path.of("README.md"))) {
            if (line.startsWith("```")) {
                inCode = line.equals("```java");
                test.x = null;
            } else if (inCode) {
                test.follow(line);
            }
        }
        Due.due("methods of the face that README.md's examples call: " + test.called, test.called.size(), 20);
        Due.end();
    }

    /** The function that shows how to feed a text stands alone, without an object. */
    private void follow(String line) throws ReflectiveOperationException {
        Matcher feed = FEED.matcher(line);
        Matcher call = CALL.matcher(line);
        if (line.equals("RunWatcher x = new RunWatcher();")) {
            x = new RunWatcher();
        } else if (x != null && feed.matches()) {
            Due.feed(x, feed.group(1));
        } else if (x != null && call.matches()) {
            called.add(call.group(1));
            Due.due("README.md: " + line, answer(call.group(1), call.group(2)), Long.parseLong(call.group(3)));
        } else if (x != null) {
            Due.due("README.md: a line that this test cannot follow: " + line, 0, 1);
        }
    }

    private long answer(String name, String texts) throws ReflectiveOperationException {
        List<String> words = texts.isEmpty() ? List.of() : List.of(texts.split(", *"));
        Object[] arguments = new Object[words.size()];
        Class<?>[] types = new Class<?>[words.size()];
        for (int i = 0; i < arguments.length; i++) {
            boolean isLong = words.get(i).endsWith("L");
            String digits = words.get(i).replace("L", "");
            types[i] = isLong ? long.class : int.class;
            arguments[i] = isLong ? (Object) Long.decode(digits) : (Object) Integer.decode(digits);
        }
        Method method = RunWatcher.class.getMethod(name, types);
        return ((Number) method.invoke(x, arguments)).longValue();
    }
}
