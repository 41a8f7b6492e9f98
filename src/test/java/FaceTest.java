import java.lang.reflect.Constructor;
import java.lang.reflect.Field;
import java.lang.reflect.Method;
import java.lang.reflect.Modifier;
import java.util.Arrays;
import java.util.Set;
import java.util.TreeSet;

/** The public face, and rule 1 of LANGUAGE.md. */
public final class FaceTest {
    private static final String[] DUE = {
        "void format(int,int) throws IllegalArgumentException",
        "int feed(int,long,long) throws IllegalArgumentException,UnsupportedOperationException",
        "int put(int) throws IllegalStateException,IllegalArgumentException,UnsupportedOperationException",
        "boolean remove() throws IllegalStateException,IllegalArgumentException,UnsupportedOperationException",
        "int get() throws IllegalStateException",
        "int answer(int)",
        "int sync() throws IllegalStateException",
        "int crash(int) throws IllegalStateException,IllegalArgumentException",
        "int open() throws IllegalStateException",
        "int mergeBegin() throws IllegalStateException,UnsupportedOperationException",
        "int mergeStep(int) throws IllegalStateException,IllegalArgumentException",
        "int patch(int,int,int) throws IllegalStateException,IndexOutOfBoundsException",
        "int file(int,int)",
        "int byteOf(int,int)",
        "int entry(int,int)",
        "int key(int,int)",
        "int bad() throws IllegalStateException",
        "int look(int)"
    };

    private static String told(Method m) {
        return m.toGenericString().replace("public ", "").replace("AppendKeep.", "").replace("java.lang.", "");
    }

    private static String told(Field f) {
        return f.toGenericString().replace("public ", "").replace("AppendKeep.", "");
    }

    public static void main(String[] args) throws NoSuchFieldException {
        Class<AppendKeep> c = AppendKeep.class;
        Set<String> face = new TreeSet<>();
        Set<String> names = new TreeSet<>();
        for (Method m : c.getDeclaredMethods()) {
            if (Modifier.isPublic(m.getModifiers())) {
                face.add(told(m));
                names.add(m.getName());
            } else {
                Check.same(m + " is private", Modifier.isPrivate(m.getModifiers()) ? 1 : 0, 1);
            }
        }
        Check.same("the methods", face.toString(), new TreeSet<>(Arrays.asList(DUE)).toString());
        for (Method m : c.getDeclaredMethods()) {
            boolean isPrivate = !Modifier.isPublic(m.getModifiers());
            Check.same(m + " bears a public name", isPrivate && names.contains(m.getName()) ? 1 : 0, 0);
        }
        for (Field f : c.getDeclaredFields()) {
            boolean isFace = f.getName().equals("NONE") && Modifier.isPublic(f.getModifiers());
            Check.same(f + " is private", isFace || Modifier.isPrivate(f.getModifiers()) ? 1 : 0, 1);
            boolean isStatic = Modifier.isStatic(f.getModifiers());
            Check.same(f + " is final if static", !isStatic || Modifier.isFinal(f.getModifiers()) ? 1 : 0, 1);
        }
        Check.same("the constant", told(c.getField("NONE")), "static final int NONE");
        Constructor<?>[] constructors = c.getDeclaredConstructors();
        Check.same("constructors", constructors.length, 1);
        Check.same("its parameters", constructors[0].getParameterCount(), 0);
        Check.same("it is public", Modifier.isPublic(constructors[0].getModifiers()) ? 1 : 0, 1);
        Check.same("the class is public and final", c.getModifiers(), Modifier.PUBLIC | Modifier.FINAL);
        for (Class<?> inner : c.getDeclaredClasses()) {
            int seen = inner.getModifiers() & (Modifier.PUBLIC | Modifier.PROTECTED | Modifier.STATIC);
            Check.same(inner + " is private or package-visible, and static", seen, Modifier.STATIC);
        }
        Check.end();
    }
}
