import java.lang.reflect.Constructor;
import java.lang.reflect.Field;
import java.lang.reflect.Method;
import java.lang.reflect.Modifier;
import java.util.Arrays;
import java.util.TreeSet;

// The public face is the document's, and nothing but it can be seen from
// outside.
public final class FaceTest {
    private static final String[] FACE = {
        "int assign(int, int, int)",
        "int drop(int)",
        "int same(int, int)",
        "int members(int)",
        "int target(int)",
        "int meet(int, int)",
        "int classes()",
        "int pointing()",
        "int steps(int)",
    };

    public static void main(String[] args) {
        Class<?> face = AliasClasses.class;
        Check.due("public class", yes(Modifier.isPublic(face.getModifiers())), 1);
        Check.due("final class", yes(Modifier.isFinal(face.getModifiers())), 1);
        Check.due("nested classes", face.getDeclaredClasses().length, 0);
        Check.due("constructors", face.getDeclaredConstructors().length, 1);
        for (Constructor<?> made : face.getDeclaredConstructors()) {
            Check.due("public constructor", yes(Modifier.isPublic(made.getModifiers())), 1);
            Check.due("its parameters", made.getParameterCount(), 0);
        }
        lookAtMethods(face);
        for (Field field : face.getDeclaredFields()) {
            Check.due("private " + field.getName(), yes(Modifier.isPrivate(field.getModifiers())), 1);
        }
        Check.end();
    }

    private static void lookAtMethods(Class<?> face) {
        TreeSet<String> wanted = new TreeSet<>(Arrays.asList(FACE));
        TreeSet<String> seen = new TreeSet<>();
        for (Method method : face.getDeclaredMethods()) {
            int modifiers = method.getModifiers();
            if (Modifier.isPrivate(modifiers)) {
                continue;
            }
            Check.due(method + " is public", yes(Modifier.isPublic(modifiers)), 1);
            Check.due(method + " is static", yes(Modifier.isStatic(modifiers)), 0);
            String parameters = Arrays.toString(method.getParameterTypes());
            parameters = parameters.substring(1, parameters.length() - 1);
            seen.add(method.getReturnType() + " " + method.getName() + "(" + parameters + ")");
        }
        for (String line : wanted) {
            Check.due("there is " + line, yes(seen.contains(line)), 1);
        }
        Check.due("methods seen from outside", seen.size(), wanted.size());
    }

    private static int yes(boolean holds) {
        return holds ? 1 : 0;
    }
}
