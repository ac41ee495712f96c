import java.lang.reflect.Constructor;
import java.lang.reflect.Field;
import java.lang.reflect.Method;
import java.lang.reflect.Modifier;
import java.util.Arrays;
import java.util.Set;
import java.util.TreeSet;

/** The public face: every constant, constructor and method of the document, and no other. */
public final class FaceTest {
    private static final Set<String> FACE = Set.of(
        "public static final int DatapathGates.BAD",
        "public DatapathGates(int,int)",
        "public boolean DatapathGates.operands(int,int)",
        "public int DatapathGates.result(int)",
        "public int DatapathGates.bit(int,int)",
        "public int DatapathGates.feed(int)",
        "public void DatapathGates.swap()",
        "public int DatapathGates.first()",
        "public int DatapathGates.second()",
        "public int DatapathGates.alike(int)",
        "public int DatapathGates.width()");

    public static void main(String[] args) {
        Class<?> type = DatapathGates.class;
        Due.due("public final class", type.getModifiers(), Modifier.PUBLIC | Modifier.FINAL);
        Due.due("superclass is Object", type.getSuperclass() == Object.class, true);
        Due.due("interfaces", type.getInterfaces().length, 0);
        Due.due("nested classes", type.getDeclaredClasses().length, 0);
        Set<String> seen = visibleMembers(type);
        for (String member : FACE) {
            Due.due("has " + member, seen.contains(member), true);
        }
        for (String member : seen) {
            Due.due("may have " + member, FACE.contains(member), true);
        }
        privateNamesDiffer(type);
        staticsAreConstants(type);
        Due.due("BAD", DatapathGates.BAD, -1);
        Due.due("BAD is known when compiling", labelOf(-1), 1);
        Due.finish();
    }

    private static Set<String> visibleMembers(Class<?> type) {
        Set<String> seen = new TreeSet<>();
        for (Field f : type.getDeclaredFields()) {
            if (!Modifier.isPrivate(f.getModifiers())) {
                seen.add(f.toString());
            }
        }
        for (Constructor<?> c : type.getDeclaredConstructors()) {
            if (!Modifier.isPrivate(c.getModifiers())) {
                seen.add(c.toString());
            }
        }
        for (Method m : type.getDeclaredMethods()) {
            if (!Modifier.isPrivate(m.getModifiers())) {
                seen.add(m.toString());
            }
        }
        return seen;
    }

    private static void privateNamesDiffer(Class<?> type) {
        Method[] methods = type.getDeclaredMethods();
        for (Method m : methods) {
            long namesakes = Arrays.stream(methods).filter(n -> n.getName().equals(m.getName())).count();
            Due.due("methods named " + m.getName(), namesakes, 1);
        }
    }

    private static void staticsAreConstants(Class<?> type) {
        for (Field f : type.getDeclaredFields()) {
            int modifiers = f.getModifiers();
            if (Modifier.isStatic(modifiers)) {
                Due.due(f + " is final", Modifier.isFinal(modifiers), true);
                Due.due(f + " is int or long", f.getType() == int.class || f.getType() == long.class, true);
            }
        }
    }

    private static int labelOf(int value) {
        switch (value) {
            case DatapathGates.BAD: return 1;
            default: return 0;
        }
    }
}
