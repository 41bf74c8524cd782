import java.io.IOException;
import java.lang.reflect.InvocationTargetException;
import java.lang.reflect.Method;
import java.nio.file.Files;
import java.nio.file.Path;
import java.util.regex.Matcher;
import java.util.regex.Pattern;

// The example of README.md answers what its comments say: 'net.least();  // 7: ...' has to answer 7.
public final class ReadmeTest extends Holds {
    private static final Path README = Path.of("README.md");
    private static final Pattern BLOCK = Pattern.compile("```java\n(.*?)```", Pattern.DOTALL);
    private static final Pattern CALL = Pattern.compile("net\\.(\\w+)\\((.*)\\);\\s*// (-?\\d+): .*");

    public static void main(String[] args) throws IOException {
        Matcher block = BLOCK.matcher(Files.readString(README));
        String[] lines = block.find() ? block.group(1).split("\n") : new String[] {""};
        check(lines[0].equals("SteinerNet net = new SteinerNet();"), "the example begins with a new object");
        SteinerNet net = new SteinerNet();
        for (int i = 1; i < lines.length; i++) {
            checkLine(net, lines[i]);
        }
        for (Method method : SteinerNet.class.getMethods()) {
            boolean ownMethod = method.getDeclaringClass() == SteinerNet.class;
            check(!ownMethod || String.join("\n", lines).contains("net." + method.getName() + "("), "the example calls " + method.getName());
        }
        end();
    }

    private static void checkLine(SteinerNet net, String line) {
        Matcher call = CALL.matcher(line);
        if (call.matches()) {
            Object got = answer(net, call.group(1), call.group(2));
            check(call.group(3).equals(String.valueOf(got)), line + " (answered " + got + ")");
        } else {
            check(false, "a call with its answer: " + line);
        }
    }

    private static Object answer(SteinerNet net, String name, String list) {
        String[] texts = list.isEmpty() ? new String[0] : list.split(", ");
        Object[] values = new Object[texts.length];
        for (int i = 0; i < texts.length; i++) {
            boolean truth = texts[i].equals("true") || texts[i].equals("false");
            values[i] = truth ? (Object) Boolean.valueOf(texts[i]) : (Object) Integer.valueOf(texts[i]);
        }
        for (Method method : SteinerNet.class.getMethods()) {
            if (method.getName().equals(name)) {
                return invoke(method, net, values);
            }
        }
        return "nothing: no such method";
    }

    private static Object invoke(Method method, SteinerNet net, Object[] values) {
        try {
            return method.invoke(net, values);
        } catch (IllegalAccessException | InvocationTargetException | IllegalArgumentException failed) {
            return "nothing: " + failed;
        }
    }
}
