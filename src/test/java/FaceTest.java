import java.lang.reflect.Constructor;
import java.lang.reflect.Field;
import java.lang.reflect.Method;
import java.lang.reflect.Modifier;
import java.util.TreeSet;

/** The public face, and that nothing else of the class can be seen. */
public final class FaceTest {
    public static void main(String[] args) {
        TreeSet<String> face = new TreeSet<>();
        for (Field f : TypeOrThing.class.getDeclaredFields()) {
            addVisible(face, f.getModifiers(), f.toString());
        }
        for (Constructor<?> c : TypeOrThing.class.getDeclaredConstructors()) {
            addVisible(face, c.getModifiers(), c.toString());
        }
        for (Method m : TypeOrThing.class.getDeclaredMethods()) {
            addVisible(face, m.getModifiers(), m.toString());
        }
        TreeSet<String> want = new TreeSet<>();
        want.add("public static final int TypeOrThing.NONE");
        want.add("public TypeOrThing()");
        want.add("public boolean TypeOrThing.type(long,int)");
        want.add("public boolean TypeOrThing.cut(int)");
        want.add("public int TypeOrThing.read() throws java.lang.IllegalArgumentException");
        want.add("public int TypeOrThing.at()");
        want.add("public int TypeOrThing.role(int)");
        want.add("public int TypeOrThing.meaning(int)");
        want.add("public int TypeOrThing.declared()");
        want.add("public int TypeOrThing.about(int,int) throws java.lang.IndexOutOfBoundsException");
        want.add("public int TypeOrThing.typeAt(int,int) throws java.lang.IndexOutOfBoundsException");
        want.add("public int TypeOrThing.length()");
        want.add("public int TypeOrThing.form(int) throws java.lang.IndexOutOfBoundsException");
        Check.due("the face", face, want);
        Check.due("the class", Modifier.toString(TypeOrThing.class.getModifiers()), "public final");
        Check.end();
    }

    private static void addVisible(TreeSet<String> face, int modifiers, String member) {
        if (!Modifier.isPrivate(modifiers)) {
            face.add(member);
        }
    }
}
