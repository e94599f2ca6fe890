import java.lang.reflect.Constructor;
import java.lang.reflect.Field;
import java.lang.reflect.Method;
import java.lang.reflect.Modifier;
import java.util.Set;
import java.util.TreeSet;

/** The public face: just the members that the document names, and no more to be seen. */
public final class FaceTest {
    private static final String[] FACE = {
        "pitch(int,boolean)", "key(int,int)", "fix(int,int)", "weights(int,int,int,int,int)", "clear()",
        "sum()", "signs()", "ties()", "name(int,int)", "keyOf(int)", "turned()", "turn(int)",
        "interval(int,int,int)", "quality(int,int)", "add(int,int)", "transpose(int,int,int)",
        "micro(int,int,int)", "step(int,int) throws java.lang.ArithmeticException", "equal(int,int)",
        "scale(int,int)"};

    public static void main(String[] args) {
        Due due = new Due("FaceTest");
        Class<?> type = SpellPitch.class;
        due.is("public and final", type.getModifiers(), Modifier.PUBLIC | Modifier.FINAL);
        Set<String> seen = new TreeSet<>();
        Set<String> hidden = new TreeSet<>();
        for (Method method : type.getDeclaredMethods()) {
            if (Modifier.isPrivate(method.getModifiers())) {
                hidden.add(method.getName());
            } else {
                due.is(method + " is public", method.getModifiers(), Modifier.PUBLIC);
                seen.add(method.toGenericString());
            }
        }
        for (String call : FACE) {
            due.is(call + " is there", seen.remove("public int SpellPitch." + call) ? 1 : 0, 1);
            due.is(call + " has no private namesake", hidden.contains(call.substring(0, call.indexOf('('))) ? 1 : 0, 0);
        }
        due.is("other methods that can be seen " + seen, seen.size(), 0);
        for (Field field : type.getDeclaredFields()) {
            due.is(field + " is private", field.getModifiers() & Modifier.PRIVATE, Modifier.PRIVATE);
            boolean changes = Modifier.isStatic(field.getModifiers()) && !Modifier.isFinal(field.getModifiers());
            due.is(field + " is no static state", changes ? 1 : 0, 0);
        }
        for (Class<?> inside : type.getDeclaredClasses()) {
            int open = inside.getModifiers() & (Modifier.PUBLIC | Modifier.PROTECTED);
            due.is(inside + " is private or package-visible", open, 0);
            due.is(inside + " is static", inside.getModifiers() & Modifier.STATIC, Modifier.STATIC);
        }
        Constructor<?>[] constructors = type.getDeclaredConstructors();
        due.is("constructors", constructors.length, 1);
        due.is("its modifiers", constructors[0].getModifiers(), Modifier.PUBLIC);
        due.is("its parameters", constructors[0].getParameterCount(), 0);
        due.end();
    }
}
