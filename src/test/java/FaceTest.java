import java.lang.reflect.Constructor;
import java.lang.reflect.Field;
import java.lang.reflect.Method;
import java.lang.reflect.Modifier;
import java.util.Set;
import java.util.TreeSet;

/** The class has the document's face and nothing more that can be seen from outside. */
public final class FaceTest {
    private static final Set<String> FACE = Set.of(
            "int feed(int)", "void clear()", "void begin()", "int run(int)", "int state()", "int x()", "int y()",
            "long time()", "int pulses()", "int last()", "int line()", "int feedRate()", "int mode()", "int left()");

    private FaceTest() {
    }

    private static String signature(Method method) {
        StringBuilder out = new StringBuilder();
        out.append(method.getReturnType().getName()).append(' ').append(method.getName()).append('(');
        for (Class<?> type : method.getParameterTypes()) {
            out.append(type.getName());
        }
        return out.append(')').toString();
    }

    public static void main(String[] args) {
        Class<PulsePlotter> type = PulsePlotter.class;
        int modifiers = type.getModifiers();
        Check.due("class is public final", Modifier.isPublic(modifiers) && Modifier.isFinal(modifiers) ? 1 : 0, 1);
        Set<String> seen = new TreeSet<>();
        for (Method method : type.getDeclaredMethods()) {
            if (!Modifier.isPrivate(method.getModifiers()) && !method.isSynthetic()) {
                seen.add(signature(method));
                boolean plain = Modifier.isPublic(method.getModifiers()) && !Modifier.isStatic(method.getModifiers());
                Check.due(signature(method) + " is public and not static", plain ? 1 : 0, 1);
            }
        }
        for (String missing : FACE) {
            Check.due(missing + " is there", seen.contains(missing) ? 1 : 0, 1);
        }
        Check.due("number of methods that can be seen", seen.size(), FACE.size());
        for (Field field : type.getDeclaredFields()) {
            Check.due(field + " is private", Modifier.isPrivate(field.getModifiers()) ? 1 : 0, 1);
        }
        Constructor<?>[] constructors = type.getDeclaredConstructors();
        Check.due("number of constructors", constructors.length, 1);
        Check.due("constructor is public", Modifier.isPublic(constructors[0].getModifiers()) ? 1 : 0, 1);
        Check.due("constructor's parameters", constructors[0].getParameterCount(), 0);
        Check.finish();
    }
}
