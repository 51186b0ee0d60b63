import java.lang.reflect.InvocationTargetException;
import java.lang.reflect.Method;
import java.lang.reflect.Modifier;
import java.nio.file.Files;
import java.nio.file.Path;
import java.util.regex.Matcher;
import java.util.regex.Pattern;

/** What README.md says: its example is carried out line by line, and every call has a row. */
public final class ReadmeTest {
    private static final Pattern LINE =
        Pattern.compile("x\\.(\\w+)\\((.*)\\); +// (true|false|-?\\d+|'.'|throws \\w+).*");

    public static void main(String[] args) throws Exception {
        String readme = Files.readString(Path.of("README.md"));
        example(readme);
        everyCallIsTold(readme);
        Check.due("whether the command for the tests is told", readme.contains("\n.ci/run\n"), true);
        Check.end();
    }

    private static void example(String readme) throws IllegalAccessException {
        TypeOrThing x = new TypeOrThing();
        int carriedOut = 0;
        for (String line : readme.split("\n")) {
            Matcher call = LINE.matcher(line);
            if (call.matches()) {
                Check.due("line " + line, answer(x, call.group(1), call.group(2)), call.group(3));
                carriedOut++;
            } else {
                Check.due("whether a call is left out in " + line, line.startsWith("x."), false);
            }
        }
        Check.due("lines of the example", carriedOut, 25);
    }

    /** The answer of a call as the example writes it. */
    private static String answer(TypeOrThing x, String name, String written) throws IllegalAccessException {
        Method method = publicMethod(name);
        String[] words = written.isEmpty() ? new String[0] : written.split(", ");
        Object[] arguments = new Object[words.length];
        for (int i = 0; i < words.length; i++) {
            long value = Long.decode(words[i].replace("L", ""));
            if (method.getParameterTypes()[i] == long.class) {
                arguments[i] = value;
            } else {
                arguments[i] = (int) value;
            }
        }
        try {
            Object got = method.invoke(x, arguments);
            boolean character = name.equals("form") || name.equals("typeAt");
            return character ? "'" + (char) (int) got + "'" : got.toString();
        } catch (InvocationTargetException e) {
            return "throws " + e.getCause().getClass().getSimpleName();
        }
    }

    private static Method publicMethod(String name) {
        for (Method m : TypeOrThing.class.getDeclaredMethods()) {
            if (m.getName().equals(name) && Modifier.isPublic(m.getModifiers())) {
                return m;
            }
        }
        throw new IllegalStateException("no public method " + name);
    }

    private static void everyCallIsTold(String readme) {
        Check.due("whether the constructor has a row", readme.contains("| `new TypeOrThing()` |"), true);
        for (Method m : TypeOrThing.class.getDeclaredMethods()) {
            if (Modifier.isPublic(m.getModifiers())) {
                boolean row = readme.contains("\n| `" + m.getName() + "(");
                Check.due("whether " + m.getName() + " has a row", row, true);
                Check.due("whether " + m.getName() + " is in the example", readme.contains("\nx." + m.getName() + "("), true);
            }
        }
    }
}
