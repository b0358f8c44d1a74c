import java.lang.reflect.Constructor;
import java.lang.reflect.Field;
import java.lang.reflect.Member;
import java.lang.reflect.Method;
import java.lang.reflect.Modifier;
import java.util.Arrays;
import java.util.TreeSet;

/** The public face: the document's members, and no other that can be seen from outside. */
public final class FaceTest {
    public static void main(String[] args) {
        Due.is("the class is public and final", OrderedVolume.class.getModifiers(), Modifier.PUBLIC | Modifier.FINAL);
        Due.is("NONE", OrderedVolume.NONE, -1);
        Due.is("EXISTS", OrderedVolume.EXISTS, -2);
        Due.is("FULL", OrderedVolume.FULL, -3);
        Due.is("BUSY", OrderedVolume.BUSY, -4);
        Due.is("constructors", OrderedVolume.class.getDeclaredConstructors().length, 1);
        Due.is("public constructors without parameters", publicConstructors(), 1);
        same("fields", fields(), "public static final int BUSY", "public static final int EXISTS",
            "public static final int FULL", "public static final int NONE");
        same("methods", methods(),
            "public int cached(int, int)", "public int create(int, int, boolean)", "public int cut(int, int)",
            "public int defects(int)", "public int flush(int)", "public int image(int, int)",
            "public int link(int, int, int)", "public int lookup(int, int)", "public int read(int, int)",
            "public int reclaim()", "public int remove(int, int)", "public int rename(int, int, int, int)",
            "public int sync()", "public int write(int, int, int)", "public boolean crash()");
        noPrivateMethodHasAPublicName();
        classesInside();
        for (Field field : OrderedVolume.class.getDeclaredFields()) {
            if (Modifier.isStatic(field.getModifiers())) {
                Due.is("final: " + field, Modifier.isFinal(field.getModifiers()), true);
            }
        }
        Due.end();
    }

    private static boolean isSeen(Member member) {
        return !Modifier.isPrivate(member.getModifiers()) && !member.isSynthetic();
    }

    private static int publicConstructors() {
        int count = 0;
        for (Constructor<?> constructor : OrderedVolume.class.getConstructors()) {
            count += constructor.getParameterCount() == 0 ? 1 : 0;
        }
        return count;
    }

    /** Rule 1 of LANGUAGE.md. */
    private static void noPrivateMethodHasAPublicName() {
        TreeSet<String> names = new TreeSet<>();
        for (Method method : OrderedVolume.class.getMethods()) {
            names.add(method.getName());
        }
        for (Method method : OrderedVolume.class.getDeclaredMethods()) {
            if (Modifier.isPrivate(method.getModifiers())) {
                Due.is("a public name too: " + method, names.contains(method.getName()), false);
            }
        }
    }

    private static void classesInside() {
        for (Class<?> inside : OrderedVolume.class.getDeclaredClasses()) {
            Due.is("static: " + inside, Modifier.isStatic(inside.getModifiers()), true);
            Due.is("private or package-visible: " + inside,
                inside.getModifiers() & (Modifier.PUBLIC | Modifier.PROTECTED), 0);
        }
    }

    private static TreeSet<String> fields() {
        TreeSet<String> found = new TreeSet<>();
        for (Field field : OrderedVolume.class.getDeclaredFields()) {
            if (isSeen(field)) {
                found.add(Modifier.toString(field.getModifiers()) + " " + field.getType() + " " + field.getName());
            }
        }
        return found;
    }

    private static TreeSet<String> methods() {
        TreeSet<String> found = new TreeSet<>();
        for (Method method : OrderedVolume.class.getDeclaredMethods()) {
            if (isSeen(method)) {
                String types = Arrays.toString(method.getParameterTypes());
                found.add(Modifier.toString(method.getModifiers()) + " " + method.getReturnType() + " "
                    + method.getName() + "(" + types.substring(1, types.length() - 1) + ")");
            }
        }
        return found;
    }

    private static void same(String what, TreeSet<String> found, String... due) {
        TreeSet<String> wanted = new TreeSet<>(Arrays.asList(due));
        Due.is(what + " " + found + ", due are " + wanted, found.equals(wanted), true);
    }
}
