import java.io.IOException;
import java.lang.reflect.Array;
import java.lang.reflect.Executable;
import java.lang.reflect.Field;
import java.lang.reflect.Method;
import java.lang.reflect.Modifier;
import java.nio.file.Files;
import java.nio.file.Path;
import java.util.ArrayList;
import java.util.Collections;
import java.util.IdentityHashMap;
import java.util.List;
import java.util.Set;
import java.util.regex.Pattern;

/** The rules of LANGUAGE.md that can be counted or looked up, and the room that an object takes. */
public final class LanguageTest {
    private static final Path PROGRAM = Path.of("src/main/java/TypeOrThing.java");
    private static final String[] OUTSIDE = {"import ", "package ", "->", "::", "finally", "synchronized", "assert ",
        "getMessage", "toString", "hashCode", "catch (Exception", "catch (Throwable", "while (true)", "Exact("};
    // 600,000 objects and 7.3 million fields for a run: this leaves room for 500 objects in it.
    private static final int MOST_OBJECTS = 100;
    private static final int MOST_CELLS = 10_000;

    public static void main(String[] args) throws Exception {
        classesInside();
        membersOfClasses();
        textOfTheProgram();
        lengthOfMethods();
        roomOfAnObject();
        Check.end();
    }

    /** Rules 1, 2 and 11: classes inside are static and not public, some twelve at most. */
    private static void classesInside() {
        Class<?>[] inside = TypeOrThing.class.getDeclaredClasses();
        Check.due("whether there are at most 12 classes", inside.length + 1 <= 12, true);
        for (Class<?> c : inside) {
            int modifiers = c.getModifiers();
            boolean seen = Modifier.isPublic(modifiers) || Modifier.isProtected(modifiers);
            Check.due("whether " + c + " is static", Modifier.isStatic(modifiers), true);
            Check.due("whether " + c + " is seen", seen, false);
            Check.due("classes inside " + c, c.getDeclaredClasses().length, 0);
        }
    }

    private static List<Class<?>> allClasses() {
        List<Class<?>> all = new ArrayList<>(List.of(TypeOrThing.class.getDeclaredClasses()));
        all.add(TypeOrThing.class);
        return all;
    }

    /** Rules 1, 5 and 11: names of methods, parameters, fields, static fields. */
    private static void membersOfClasses() {
        List<String> face = new ArrayList<>();
        for (Method m : TypeOrThing.class.getDeclaredMethods()) {
            if (Modifier.isPublic(m.getModifiers())) {
                face.add(m.getName());
            }
        }
        for (Class<?> c : allClasses()) {
            List<Executable> bodies = new ArrayList<>(List.of(c.getDeclaredMethods()));
            bodies.addAll(List.of(c.getDeclaredConstructors()));
            for (Executable body : bodies) {
                Check.due("whether " + body + " has at most 7 parameters", body.getParameterCount() <= 7, true);
                boolean named = face.contains(body.getName()) && !Modifier.isPublic(body.getModifiers());
                Check.due("whether " + body + " is named as one of the face", named, false);
            }
            int fields = 0;
            for (Field f : c.getDeclaredFields()) {
                boolean shared = Modifier.isStatic(f.getModifiers());
                boolean constant = Modifier.isFinal(f.getModifiers());
                Check.due("whether " + f + " is state of all objects", shared && !constant, false);
                fields += shared ? 0 : 1;
            }
            Check.due("whether " + c + " has at most 20 fields", fields <= 20, true);
        }
    }

    /** Rules 3, 4, 6, 9 and 13, as far as single words tell. */
    private static void textOfTheProgram() throws IOException {
        String program = Files.readString(PROGRAM);
        for (String word : OUTSIDE) {
            Check.due("whether the program has " + word, program.contains(word), false);
        }
        boolean plain = Pattern.compile("[^\\n -~]").matcher(program).find();
        Check.due("whether the program has other characters", plain, false);
    }

    /** Rule 11: "Methods stay short (some sixty lines)" */
    private static void lengthOfMethods() throws IOException {
        List<String> lines = Files.readAllLines(PROGRAM);
        Pattern head = Pattern.compile(" +(?!if|for|switch|while|try)[a-zA-Z].*\\) (throws \\w+ )?\\{");
        for (int i = 0; i < lines.size(); i++) {
            if (head.matcher(lines.get(i)).matches()) {
                String end = lines.get(i).replaceAll("\\S.*", "") + "}";
                int length = lines.subList(i, lines.size()).indexOf(end) + 1;
                Check.due("whether line " + (i + 1) + " begins a short method", length >= 1 && length <= 60, true);
            }
        }
    }

    /** Rule 12, and the room that all calls of one run share: nothing is made anew by calls. */
    private static void roomOfAnObject() throws IllegalAccessException {
        TypeOrThing x = new TypeOrThing();
        Set<Object> made = reached(x);
        int cells = cells(made);
        Check.due("whether " + made.size() + " objects are few", made.size() <= MOST_OBJECTS, true);
        Check.due("whether " + cells + " fields and elements are few", cells <= MOST_CELLS, true);
        for (String text : new String[] {"int f(int a){{{{int b=(int(*)(int))a;}}}}", "int a=((((((((!!!!", ""}) {
            x.cut(0);
            Check.append(x, text);
            Check.readAt(x);
            Set<Object> now = reached(x);
            Check.due("whether reading makes what is kept", made.containsAll(now) && now.containsAll(made), true);
        }
    }

    /** An object and all that its fields lead to; its arrays hold numbers alone. */
    private static Set<Object> reached(Object from) throws IllegalAccessException {
        Set<Object> found = Collections.newSetFromMap(new IdentityHashMap<>());
        List<Object> open = new ArrayList<>(List.of(from));
        while (!open.isEmpty()) {
            Object x = open.remove(open.size() - 1);
            if (found.add(x) && !x.getClass().isArray()) {
                for (Field f : x.getClass().getDeclaredFields()) {
                    if (!Modifier.isStatic(f.getModifiers()) && !f.getType().isPrimitive()) {
                        f.setAccessible(true);
                        open.add(f.get(x));
                    }
                }
            }
        }
        return found;
    }

    private static int cells(Set<Object> objects) {
        int cells = 0;
        for (Object x : objects) {
            cells += x.getClass().isArray() ? Array.getLength(x) : x.getClass().getDeclaredFields().length;
        }
        return cells;
    }
}
