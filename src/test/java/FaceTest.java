import java.lang.reflect.Constructor;
import java.lang.reflect.Field;
import java.lang.reflect.Method;
import java.lang.reflect.Modifier;
import java.util.Arrays;
import java.util.TreeSet;

/** The public face: just the members of the document can be seen from outside. */
public final class FaceTest {
    public static void main(String[] args) {
        Probe probe = new Probe("FaceTest");
        TreeSet<String> want = new TreeSet<>(Arrays.asList(
            "NONE", "ENDLESS", "BAD", "new()", "feed(int,int,int,int,int):int", "cut(int):int", "read():int",
            "told(int):int", "mistake(int,int):int", "kind(int,int):int", "below(int,int):boolean",
            "method(int,int):int", "statement(int,int):int", "find():int", "walk(int,long):int", "steps():int"));
        probe.due("members " + seen() + " are the face", seen().equals(want), true);
        int modifiers = ThrowRules.class.getModifiers();
        probe.due("public", Modifier.isPublic(modifiers), true);
        probe.due("final", Modifier.isFinal(modifiers), true);
        probe.due("NONE", ThrowRules.NONE, -1);
        probe.due("ENDLESS", ThrowRules.ENDLESS, -2);
        probe.due("BAD", ThrowRules.BAD, -3);
        for (Class<?> inside : ThrowRules.class.getDeclaredClasses()) {
            probe.due(inside + " static", Modifier.isStatic(inside.getModifiers()), true);
            probe.due(inside + " public", Modifier.isPublic(inside.getModifiers()), false);
        }
        probe.end();
    }

    private static TreeSet<String> seen() {
        TreeSet<String> seen = new TreeSet<>();
        for (Field one : ThrowRules.class.getDeclaredFields()) {
            if (!Modifier.isPrivate(one.getModifiers())) {
                seen.add(one.getName());
            }
        }
        for (Constructor<?> one : ThrowRules.class.getDeclaredConstructors()) {
            if (!Modifier.isPrivate(one.getModifiers())) {
                seen.add("new(" + types(one.getParameterTypes()) + ")");
            }
        }
        for (Method one : ThrowRules.class.getDeclaredMethods()) {
            if (!Modifier.isPrivate(one.getModifiers())) {
                seen.add(one.getName() + "(" + types(one.getParameterTypes()) + "):" + one.getReturnType());
            }
        }
        return seen;
    }

    private static String types(Class<?>[] types) {
        StringBuilder text = new StringBuilder();
        for (Class<?> one : types) {
            text.append(text.length() == 0 ? "" : ",").append(one);
        }
        return text.toString();
    }
}
