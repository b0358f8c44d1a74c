import java.lang.reflect.Field;
import java.lang.reflect.Member;
import java.lang.reflect.Method;
import java.lang.reflect.Modifier;
import java.util.Arrays;
import java.util.TreeSet;

/** The public face: the document's members, and no other that can be seen from outside. */
public final class FaceTest {
    public static void main(String[] args) {
        Due.is("the class is public and final", OrderedVolume.class.getModifiers(), Modifier.PUBLIC | Modifier.FINAL);
        Due.is("NONE", OrderedVolume.NONE, -1);
        Due.is("EXISTS", OrderedVolume.EXISTS, -2);
        Due.is("FULL", OrderedVolume.FULL, -3);
        Due.is("BUSY", OrderedVolume.BUSY, -4);
        Due.is("constructors", OrderedVolume.class.getDeclaredConstructors().length, 1);
        same("fields", fields(), "BUSY", "EXISTS", "FULL", "NONE");
        same("methods", methods(),
            "int cached(int, int)", "int create(int, int, boolean)", "int cut(int, int)", "int defects(int)",
            "int flush(int)", "int image(int, int)", "int link(int, int, int)", "int lookup(int, int)",
            "int read(int, int)", "int reclaim()", "int remove(int, int)", "int rename(int, int, int, int)",
            "int sync()", "int write(int, int, int)", "boolean crash()");
        for (Field field : OrderedVolume.class.getDeclaredFields()) {
            if (Modifier.isStatic(field.getModifiers())) {
                Due.is("final: " + field, Modifier.isFinal(field.getModifiers()), true);
            }
        }
        Due.end();
    }

    private static boolean isSeen(Member member) {
        return !Modifier.isPrivate(member.getModifiers()) && !member.isSynthetic();
    }

    private static TreeSet<String> fields() {
        TreeSet<String> found = new TreeSet<>();
        for (Field field : OrderedVolume.class.getDeclaredFields()) {
            if (isSeen(field)) {
                found.add(field.getName());
            }
        }
        return found;
    }

    private static TreeSet<String> methods() {
        TreeSet<String> found = new TreeSet<>();
        for (Method method : OrderedVolume.class.getDeclaredMethods()) {
            if (isSeen(method)) {
                String types = Arrays.toString(method.getParameterTypes());
                found.add(method.getReturnType() + " " + method.getName() + "("
                    + types.substring(1, types.length() - 1) + ")");
            }
        }
        return found;
    }

    private static void same(String what, TreeSet<String> found, String... due) {
        TreeSet<String> wanted = new TreeSet<>(Arrays.asList(due));
        Due.is(what + " " + found + ", due are " + wanted, found.equals(wanted), true);
    }
}
