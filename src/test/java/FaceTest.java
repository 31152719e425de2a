import java.lang.reflect.Constructor;
import java.lang.reflect.Field;
import java.lang.reflect.Method;
import java.lang.reflect.Modifier;
import java.util.Set;
import java.util.TreeSet;

/** 'The public face', and what reflection can see of LANGUAGE.md's rules 1, 2 and 5; LanguageTest has more. */
public final class FaceTest {
    public static void main(String[] args) {
        theFaceIsTheDocuments();
        theConstantsHaveTheirValues();
        theClassIsPlain();
        fieldsArePlain();
        namesAreApart();
        Due.finish();
    }

    private static void theFaceIsTheDocuments() {
        Set<String> want = new TreeSet<>(Set.of(
            "ChordRing(int int int)", "int join(int)", "int leave(int)", "int crash(int)",
            "int stabilise()", "int put(int int)", "int remove(int)", "boolean isLive(int)",
            "int nodeCount()", "int keyCount()", "int pendingCrashes()", "int lookup(int int)",
            "int valueOf(int)", "int holderAt(int int)", "boolean holds(int int)",
            "int keysAt(int)", "int keyAt(int int)", "OK", "ERR_RANGE", "ERR_LIVE",
            "ERR_NOT_LIVE", "ERR_FULL", "ERR_EMPTY", "ERR_NO_KEY", "NONE", "RING"));
        Set<String> got = new TreeSet<>();
        for (Constructor<?> made : ChordRing.class.getDeclaredConstructors()) {
            addFace(got, made.getModifiers(), Modifier.PUBLIC, "ChordRing", made.getParameterTypes());
        }
        for (Method method : ChordRing.class.getDeclaredMethods()) {
            String name = method.getReturnType() + " " + method.getName();
            addFace(got, method.getModifiers(), Modifier.PUBLIC, name, method.getParameterTypes());
        }
        for (Field field : ChordRing.class.getDeclaredFields()) {
            if (!Modifier.isPrivate(field.getModifiers())) {
                int plain = Modifier.PUBLIC | Modifier.STATIC | Modifier.FINAL;
                boolean asDue = field.getModifiers() == plain && field.getType() == int.class;
                got.add(field.getName() + (asDue ? "" : " with other modifiers"));
            }
        }
        Due.same("the public face", got.toString(), want.toString());
    }

    private static void addFace(Set<String> face, int modifiers, int due, String name, Class<?>[] types) {
        if (Modifier.isPrivate(modifiers)) {
            return;
        }
        StringBuilder text = new StringBuilder();
        for (Class<?> type : types) {
            text.append(text.length() == 0 ? "" : " ").append(type);
        }
        face.add(name + "(" + text + ")" + (modifiers == due ? "" : " with other modifiers"));
    }

    private static void theConstantsHaveTheirValues() {
        Due.due("OK", ChordRing.OK, 0);
        Due.due("ERR_RANGE", ChordRing.ERR_RANGE, -1);
        Due.due("ERR_LIVE", ChordRing.ERR_LIVE, -2);
        Due.due("ERR_NOT_LIVE", ChordRing.ERR_NOT_LIVE, -3);
        Due.due("ERR_FULL", ChordRing.ERR_FULL, -4);
        Due.due("ERR_EMPTY", ChordRing.ERR_EMPTY, -5);
        Due.due("ERR_NO_KEY", ChordRing.ERR_NO_KEY, -6);
        Due.due("NONE", ChordRing.NONE, -1);
        Due.due("RING", ChordRing.RING, 256);
    }

    private static void theClassIsPlain() {
        int modifiers = ChordRing.class.getModifiers();
        Due.due("public and final", modifiers, Modifier.PUBLIC | Modifier.FINAL);
        Due.due("nested classes", ChordRing.class.getDeclaredClasses().length, 0);
        Due.due("interfaces", ChordRing.class.getInterfaces().length, 0);
        Due.due("no other parent", ChordRing.class.getSuperclass() == Object.class, true);
    }

    private static void fieldsArePlain() {
        for (Field field : ChordRing.class.getDeclaredFields()) {
            Class<?> type = field.getType();
            Class<?> item = type.isArray() ? type.getComponentType() : type;
            boolean number = item.isPrimitive() && item != float.class && item != double.class;
            Due.due("type of " + field.getName(), number, true);
            if (Modifier.isStatic(field.getModifiers())) {
                boolean constant = Modifier.isFinal(field.getModifiers())
                    && (type == int.class || type == long.class);
                Due.due("static field " + field.getName(), constant, true);
            }
        }
    }

    private static void namesAreApart() {
        Set<String> open = new TreeSet<>();
        for (Method method : ChordRing.class.getDeclaredMethods()) {
            if (Modifier.isPublic(method.getModifiers())) {
                open.add(method.getName());
            }
        }
        for (Method method : ChordRing.class.getDeclaredMethods()) {
            boolean hidden = Modifier.isPrivate(method.getModifiers());
            Due.due("name of private " + method, hidden && open.contains(method.getName()), false);
        }
    }
}
