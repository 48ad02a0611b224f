import java.io.IOException;
import java.lang.reflect.Array;
import java.lang.reflect.Constructor;
import java.lang.reflect.Field;
import java.lang.reflect.Method;
import java.lang.reflect.Modifier;
import java.nio.file.Files;
import java.nio.file.Path;
import java.util.Collections;
import java.util.IdentityHashMap;
import java.util.Set;
import java.util.TreeSet;
import java.util.regex.Matcher;
import java.util.regex.Pattern;

/**
 * The class has the face that the document's "The public face" shows, and nothing else that is not
 * private; an object is small, and stays as it was made: LANGUAGE.md's rules 1 and 12.
 */
public final class FaceTest {
    /** A run has room for 7.3 million fields and elements in 600,000 objects: for a hundred of these. */
    private static final int MOST_ELEMENTS = 60_000;
    private static final int MOST_OBJECTS = 100;

    private final Set<Object> met = Collections.newSetFromMap(new IdentityHashMap<>());
    private long elements = 0;

    public static void main(String[] args) throws IOException, ReflectiveOperationException {
        Set<String> told = toldFace();
        Set<String> there = face();
        for (String member : told) {
            Due.due("the class has '" + member + "'", there.contains(member) ? 1 : 0, 1);
        }
        for (String member : there) {
            Due.due("the document has '" + member + "'", told.contains(member) ? 1 : 0, 1);
        }
        Due.due("members of the face", told.size(), 27);
        Due.due("the class is public and final",
            RunWatcher.class.getModifiers() == (Modifier.PUBLIC | Modifier.FINAL) ? 1 : 0, 1);
        sizes();
        Due.end();
    }

    /** The members within the first block of code of the document, each in one form. */
    private static Set<String> toldFace() throws IOException {
        String text = Files.readString(Path.of("../shared/DOC.md"));
        String block = text.substring(text.indexOf("```java"));
        block = block.substring(0, block.indexOf("\n}"));
        Set<String> told = new TreeSet<>();
        Matcher constants = Pattern.compile("public static final int ([^;]*);").matcher(block);
        while (constants.find()) {
            for (String each : constants.group(1).split(", ")) {
                told.add("public static final int " + each);
            }
        }
        Matcher calls = Pattern.compile("public ((?:int |long )?)(\\w+)\\((.*)\\);").matcher(block);
        while (calls.find()) {
            String types = calls.group(3).replaceAll(" \\w+(?=,|$)", "");
            told.add("public " + calls.group(1) + calls.group(2) + "(" + types + ")");
        }
        return told;
    }

    private static Set<String> face() throws ReflectiveOperationException {
        Set<String> there = new TreeSet<>();
        for (Field field : RunWatcher.class.getDeclaredFields()) {
            if (!Modifier.isPrivate(field.getModifiers())) {
                boolean isStatic = Modifier.isStatic(field.getModifiers());
                there.add(Modifier.toString(field.getModifiers()) + " " + field.getType() + " " + field.getName()
                    + (isStatic ? " = " + field.get(null) : ""));
            }
        }
        for (Constructor<?> each : RunWatcher.class.getDeclaredConstructors()) {
            if (!Modifier.isPrivate(each.getModifiers())) {
                there.add((Modifier.toString(each.getModifiers()) + " RunWatcher(" + types(each.getParameterTypes())
                    + ")").trim());
            }
        }
        for (Method each : RunWatcher.class.getDeclaredMethods()) {
            if (!Modifier.isPrivate(each.getModifiers())) {
                there.add((Modifier.toString(each.getModifiers()) + " " + each.getReturnType() + " " + each.getName()
                    + "(" + types(each.getParameterTypes()) + ")").trim());
            }
        }
        return there;
    }

    private static String types(Class<?>[] types) {
        StringBuilder text = new StringBuilder();
        for (Class<?> type : types) {
            text.append(text.length() > 0 ? ", " : "").append(type);
        }
        return text.toString();
    }

    /** No call makes a row anew: what an object holds is as much behind its calls as ahead of them. */
    private static void sizes() throws IllegalAccessException {
        RunWatcher x = new RunWatcher();
        FaceTest ahead = new FaceTest();
        ahead.measure(x);
        for (String rule : new String[] {"F(a&NNNNNb)", "FGYYYYYa", "YNa", "aUb"}) {
            Due.read(x, rule);
            x.keep();
            x.event(0, 0);
            x.lost(0, 100);
            x.against();
            x.run(0, 25, 24);
        }
        FaceTest behind = new FaceTest();
        behind.measure(x);
        Due.due("elements behind calls", behind.elements, ahead.elements);
        Due.due("objects behind calls are no more", behind.met.size() <= ahead.met.size() ? 1 : 0, 1);
        Due.due("an object's elements, " + ahead.elements + ", are few", ahead.elements <= MOST_ELEMENTS ? 1 : 0, 1);
        Due.due("an object's parts, " + ahead.met.size() + ", are few", ahead.met.size() <= MOST_OBJECTS ? 1 : 0, 1);
    }

    private void measure(Object object) throws IllegalAccessException {
        if (object == null || !met.add(object)) {
            return;
        }
        if (object.getClass().isArray()) {
            elements += Array.getLength(object);
            return;
        }
        for (Field field : object.getClass().getDeclaredFields()) {
            if (!Modifier.isStatic(field.getModifiers())) {
                elements++;
                field.setAccessible(true);
                if (!field.getType().isPrimitive()) {
                    measure(field.get(object));
                }
            }
        }
    }
}
