import java.lang.reflect.Constructor;
import java.lang.reflect.Field;
import java.lang.reflect.Method;
import java.lang.reflect.Modifier;
import java.util.Set;
import java.util.TreeSet;

// The class shows the document's public face and nothing else, and its fields are of the kinds LANGUAGE.md allows.
public final class FaceTest extends Holds {
    private static final Set<String> FACE = Set.of(
            "int line(int, int, int, int)", "int cut(int)", "int mark(int, boolean)", "int least()", "int chosen(int)",
            "int with(int)", "int without(int)", "int including(int)", "int between(int, int)");
    private static final Set<Class<?>> NUMBERS =
            Set.of(int.class, long.class, short.class, byte.class, char.class, boolean.class);

    public static void main(String[] args) {
        Class<?> face = SteinerNet.class;
        check(Modifier.isPublic(face.getModifiers()) && Modifier.isFinal(face.getModifiers()), "the class is public and final");
        check(face.getSuperclass() == Object.class && face.getInterfaces().length == 0, "the class extends nothing");
        check(face.getDeclaredClasses().length == 0, "the class has no class inside");
        checkConstructor(face);
        checkMethods(face);
        for (Field field : face.getDeclaredFields()) {
            checkField(field);
        }
        end();
    }

    private static void checkConstructor(Class<?> face) {
        Constructor<?>[] all = face.getDeclaredConstructors();
        check(all.length == 1 && all[0].getParameterCount() == 0 && Modifier.isPublic(all[0].getModifiers()),
                "there is one constructor, public and without parameters");
    }

    private static void checkMethods(Class<?> face) {
        Set<String> seen = new TreeSet<>();
        Set<String> publicNames = new TreeSet<>();
        for (Method method : face.getDeclaredMethods()) {
            if (!Modifier.isPrivate(method.getModifiers())) {
                check(method.getModifiers() == Modifier.PUBLIC, method + " is public and nothing more");
                seen.add(told(method));
                publicNames.add(method.getName());
            }
        }
        check(seen.equals(new TreeSet<>(FACE)), "the methods " + seen + " are those of the document");
        for (Method method : face.getDeclaredMethods()) {
            boolean isPrivate = Modifier.isPrivate(method.getModifiers());
            check(!isPrivate || !publicNames.contains(method.getName()), method + " bears no public name");
        }
    }

    private static String told(Method method) {
        StringBuilder text = new StringBuilder();
        for (Class<?> type : method.getParameterTypes()) {
            text.append(text.length() == 0 ? "" : ", ").append(type.getName());
        }
        return method.getReturnType().getName() + " " + method.getName() + "(" + text + ")";
    }

    private static void checkField(Field field) {
        Class<?> type = field.getType();
        check(Modifier.isPrivate(field.getModifiers()), field + " is private");
        if (Modifier.isStatic(field.getModifiers())) {
            check(Modifier.isFinal(field.getModifiers()) && (type == int.class || type == long.class), field + " is a constant");
        } else {
            check(NUMBERS.contains(type) || type.isArray() && NUMBERS.contains(type.getComponentType()), field + " is a number or an array of numbers");
        }
    }
}
