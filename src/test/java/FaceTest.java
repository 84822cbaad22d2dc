import java.lang.reflect.Constructor;
import java.lang.reflect.Field;
import java.lang.reflect.Method;
import java.lang.reflect.Modifier;
import java.util.Set;
import java.util.TreeSet;

/** The class has the public face of the document, and no member beside it that isn't private. */
public final class FaceTest {
    private static final String[] FACE = {
        "BAD = -5001", "NONE = -5002", "DAMAGED = -5003", "FULL = -5004", "BUSY = -5005",
        "SoundArchive/0", "clear/0", "append/2", "tone/4", "get/2", "set/3", "length/0", "cut/2", "change/1",
        "digest/0", "store/2", "load/1", "excerpt/3", "peek/3", "lengthOf/1", "peak/2", "join/2", "same/2",
        "drop/1", "damage/2", "repair/1"
    };
    private static int wrong = 0;

    private static void check(boolean good, String what) {
        if (!good) {
            wrong++;
            System.out.println(what);
        }
    }

    private static boolean isPrivate(int modifiers) {
        return Modifier.isPrivate(modifiers);
    }

    private static Set<String> found() throws ReflectiveOperationException {
        Set<String> face = new TreeSet<>();
        for (Field f : SoundArchive.class.getDeclaredFields()) {
            if (!isPrivate(f.getModifiers())) {
                check(f.getModifiers() == (Modifier.PUBLIC | Modifier.STATIC | Modifier.FINAL), "modifiers of " + f);
                check(f.getType() == int.class, "type of " + f);
                face.add(f.getName() + " = " + f.get(null));
            }
        }
        for (Constructor<?> c : SoundArchive.class.getDeclaredConstructors()) {
            check(c.getModifiers() == Modifier.PUBLIC, "modifiers of " + c);
            face.add("SoundArchive/" + c.getParameterCount());
        }
        for (Method m : SoundArchive.class.getDeclaredMethods()) {
            if (!isPrivate(m.getModifiers())) {
                check(m.getModifiers() == Modifier.PUBLIC, "modifiers of " + m);
                check(m.getReturnType() == int.class, "answer of " + m);
                for (Class<?> type : m.getParameterTypes()) {
                    check(type == int.class, "parameters of " + m);
                }
                face.add(m.getName() + "/" + m.getParameterCount());
            }
        }
        return face;
    }

    public static void main(String[] args) throws ReflectiveOperationException {
        Set<String> due = new TreeSet<>(Set.of(FACE));
        Set<String> found = found();
        check(found.equals(due), "the face is " + found + ", due is " + due);
        check(SoundArchive.class.getModifiers() == (Modifier.PUBLIC | Modifier.FINAL), "the class is not public and final");
        check(SoundArchive.class.getDeclaredClasses().length == 0, "there is a nested class");
        if (wrong != 0) {
            System.exit(1);
        }
    }
}
