import java.lang.reflect.Constructor;
import java.lang.reflect.Field;
import java.lang.reflect.Method;
import java.lang.reflect.Modifier;
import java.util.Arrays;
import java.util.Set;
import java.util.TreeSet;

/** The public face, and that nothing else can be seen from outside. */
public final class FaceTest {
    public static void main(String[] args) {
        Class<?> face = SadBlock.class;
        int mods = face.getModifiers();
        Check.same("class is public", Modifier.isPublic(mods), true);
        Check.same("class is final", Modifier.isFinal(mods), true);
        Check.same("class extends Object", face.getSuperclass() == Object.class, true);
        Check.same("interfaces", face.getInterfaces().length, 0);
        Check.same("nested classes", face.getDeclaredClasses().length, 0);
        Check.same("package name's length", face.getPackageName().length(), 0);
        oneConstructor(face);
        methods(face);
        fields(face);
        Check.end();
    }

    private static void oneConstructor(Class<?> face) {
        Constructor<?>[] all = face.getDeclaredConstructors();
        Check.same("constructors", all.length, 1);
        Check.same("constructor is public", Modifier.isPublic(all[0].getModifiers()), true);
        Check.same("constructor's parameters", all[0].getParameterCount(), 0);
        Check.same("constructor's exceptions", all[0].getExceptionTypes().length, 0);
    }

    private static void methods(Class<?> face) {
        Set<String> due = new TreeSet<>(Arrays.asList(
            "public int setCur[int, int]",
            "public int setRef[int, int]",
            "public int sadAt[int, int]",
            "public boolean take[int, int]",
            "public int best[]"));
        Set<String> names = new TreeSet<>(Arrays.asList("setCur", "setRef", "sadAt", "take", "best"));
        Set<String> seen = new TreeSet<>();
        for (Method m : face.getDeclaredMethods()) {
            boolean hidden = Modifier.isPrivate(m.getModifiers());
            if (hidden) {
                Check.same("private method named as a public one: " + m, names.contains(m.getName()), false);
            } else {
                seen.add(Modifier.toString(m.getModifiers()) + " " + m.getReturnType() + " "
                    + m.getName() + Arrays.toString(m.getParameterTypes()));
                Check.same("exceptions of " + m, m.getExceptionTypes().length, 0);
            }
        }
        if (!seen.equals(due)) {
            System.out.println("seen: " + seen + ", due: " + due);
        }
        Check.same("methods that can be seen are the five of the face", seen.equals(due), true);
    }

    private static void fields(Class<?> face) {
        for (Field f : face.getDeclaredFields()) {
            int mods = f.getModifiers();
            Check.same("private: " + f, Modifier.isPrivate(mods), true);
            if (Modifier.isStatic(mods)) {
                Check.same("constant of int or long: " + f, Modifier.isFinal(mods)
                    && (f.getType() == int.class || f.getType() == long.class), true);
            }
        }
    }
}
