import java.lang.reflect.Constructor;
import java.lang.reflect.Field;
import java.lang.reflect.Member;
import java.lang.reflect.Method;
import java.lang.reflect.Modifier;
import java.util.Arrays;
import java.util.Set;
import java.util.TreeSet;

/** The public face is the document's, and nothing else of the class can be seen; calls make no rows. */
public final class FaceTest {
    private static final String[] DUE = {
        "NONE = -1", "STAT = 0", "ENTRY = 1", "POINTERS = 2", "TAIL = 3",
        "PackedTree(int, int)",
        "int make(int, int, boolean) U X A S", "int link(int, int, int) U X A S", "int unlink(int, int) U X S",
        "int move(int, int, int, int) U X A S", "int write(int, int, long, int) U X A S",
        "int fill(int, int, int, int) U X A S", "int cut(int, int) U X A S", "int read(int, int) U X",
        "int look(int, int) U X", "int name(int, int) U X", "int about(int, int) U X A", "int node(int, int, int) U X A",
        "int item(int, int) U X A", "int commit() U S", "int checkpoint() U", "int back() U", "void fail(int) A",
        "boolean off()", "int recover() S", "int count(int) U A"};
    private static boolean right = true;

    private static void say(String text) {
        System.out.println(text);
        right = false;
    }

    private static String types(Class<?>[] types) {
        return Arrays.stream(types).map(Class::getSimpleName).reduce((a, b) -> a + ", " + b).orElse("");
    }

    private static String letter(Class<?> exception) {
        return switch (exception.getSimpleName()) {
            case "UnsupportedOperationException" -> " U";
            case "IndexOutOfBoundsException" -> " X";
            case "IllegalArgumentException" -> " A";
            case "IllegalStateException" -> " S";
            default -> " " + exception.getSimpleName();
        };
    }

    private static String told(Method m) {
        String text = m.getReturnType().getSimpleName() + " " + m.getName() + "(" + types(m.getParameterTypes()) + ")";
        for (Class<?> e : m.getExceptionTypes()) {
            text += letter(e);
        }
        return text;
    }

    private static boolean shown(Member m) {
        if (Modifier.isPublic(m.getModifiers())) {
            return true;
        }
        if (!Modifier.isPrivate(m.getModifiers()) && !m.isSynthetic()) {
            say(m + " is neither public nor private");
        }
        return false;
    }

    private static Set<String> face() throws IllegalAccessException {
        Set<String> face = new TreeSet<>();
        Set<String> hidden = new TreeSet<>();
        for (Field f : PackedTree.class.getDeclaredFields()) {
            if (shown(f)) {
                face.add(f.getName() + " = " + f.getInt(null));
            }
        }
        for (Constructor<?> c : PackedTree.class.getDeclaredConstructors()) {
            if (shown(c)) {
                face.add("PackedTree(" + types(c.getParameterTypes()) + ")");
            }
        }
        for (Method m : PackedTree.class.getDeclaredMethods()) {
            if (shown(m)) {
                face.add(told(m));
            } else {
                hidden.add(m.getName());
            }
        }
        for (Method m : PackedTree.class.getDeclaredMethods()) {
            if (Modifier.isPublic(m.getModifiers()) && hidden.contains(m.getName())) {
                say("a private method bears the name " + m.getName());
            }
        }
        return face;
    }

    /** All calls of one run live in one room: a call that copies all rows would need far more than this. */
    private static void calmCalls() {
        com.sun.management.ThreadMXBean bean =
                (com.sun.management.ThreadMXBean) java.lang.management.ManagementFactory.getThreadMXBean();
        PackedTree t = new PackedTree(96, 64);
        long before = 0;
        for (int round = 0; round < 40; round++) {
            if (round == 10) {
                before = bean.getCurrentThreadAllocatedBytes();
            }
            t.make(1, 1, false);
            t.fill(2, 0, round, 500);
            t.cut(2, 170);
            t.move(1, 1, 1, 2);
            t.commit();
            t.unlink(1, 2);
            t.back();
            t.unlink(1, 2);
            t.commit();
            t.checkpoint();
            t.count(6);
        }
        long each = (bean.getCurrentThreadAllocatedBytes() - before) / 330;
        if (each > 8192) {
            say("a call makes some " + each + " bytes");
        }
    }

    public static void main(String[] args) throws IllegalAccessException {
        Set<String> due = new TreeSet<>(Arrays.asList(DUE));
        Set<String> got = face();
        if (!Modifier.isFinal(PackedTree.class.getModifiers()) || !due.equals(got)) {
            say("the face is " + got + ", due is " + due);
        }
        for (Class<?> c : PackedTree.class.getDeclaredClasses()) {
            if (!Modifier.isStatic(c.getModifiers())) {
                say(c + " is not static");
            }
        }
        calmCalls();
        System.out.println(right ? "the face is as due" : "the face is not as due");
        if (!right) {
            System.exit(1);
        }
    }
}
