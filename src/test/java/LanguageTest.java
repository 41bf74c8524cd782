import java.io.IOException;
import java.nio.file.Files;
import java.nio.file.Path;
import java.util.ArrayList;
import java.util.List;
import java.util.Map;
import java.util.Set;
import java.util.TreeMap;
import java.util.TreeSet;
import java.util.regex.Matcher;
import java.util.regex.Pattern;
import java.util.stream.Stream;

// The rules of LANGUAGE.md that the text of the class can show. It reads the text as it is laid out here: members
// stand four blanks in, and a member's closing brace does too. FaceTest looks at rule 1's members and rule 2's fields.
public final class LanguageTest extends Holds {
    private static final Path FOLDER = Path.of("src/main/java");
    private static final Path SOURCE = FOLDER.resolve("SteinerNet.java");

    private static final Pattern COMMENT = Pattern.compile("/\\*.*?\\*/|//[^\n]*", Pattern.DOTALL);
    private static final Pattern METHOD = Pattern.compile(
            "^ {4}(?:public|private)[^=;{]*?(\\w+)\\(([^)]*)\\) \\{\n(.*?)^ {4}\\}$", Pattern.DOTALL | Pattern.MULTILINE);
    private static final Pattern FIELD = Pattern.compile("^ {4}[^ ()\n][^()\n]*;$", Pattern.MULTILINE);
    private static final Pattern CALL = Pattern.compile("\\b(?!(?:if|for|while|switch|return)\\b)(\\w+)\\(");
    private static final Pattern CLASS_NAME = Pattern.compile("\\b[A-Z]\\w*[a-z]\\w*\\b");
    private static final Pattern WORDS_LEFT_OUT = Pattern.compile("\\b(?:package|import|protected|interface|enum|record"
            + "|float|double|null|throw|throws|try|catch|finally|synchronized|assert|instanceof|super)\\b"
            + "|->|::|\"|\\[\\]\\s*\\[|static \\{");
    private static final Pattern ARRAY_FIELD = Pattern.compile("private final \\w+\\[\\] \\w+ = new \\w+\\[(?:[1-9]\\d*|[A-Z_]+)\\];");

    public static void main(String[] args) throws IOException {
        String text = COMMENT.matcher(Files.readString(SOURCE)).replaceAll("");
        Map<String, String> bodies = bodies(text);
        onlyFile();
        noneOf("rules 1 to 3 and 6", WORDS_LEFT_OUT, text);
        for (String name : found(CLASS_NAME, text)) {
            check(name.equals("SteinerNet"), "rule 3: no class but the document's: " + name);
        }
        arraysAreFields(text);
        noRecursionAndNotDeep(bodies);
        noCallInsideACall(bodies);
        shortMethodsFewFields(text, bodies);
        end();
    }

    private static void noneOf(String rule, Pattern pattern, String text) {
        check(found(pattern, text).isEmpty(), rule + ": the class is without " + found(pattern, text));
    }

    private static List<String> found(Pattern pattern, String text) {
        List<String> all = new ArrayList<>();
        pattern.matcher(text).results().forEach(r -> all.add(r.group()));
        return all;
    }

    private static void onlyFile() throws IOException {
        try (Stream<Path> files = Files.walk(FOLDER)) {
            List<Path> others = files.filter(p -> Files.isRegularFile(p) && !p.equals(SOURCE)).toList();
            check(others.isEmpty(), "one file: also there are " + others);
        }
    }

    private static Map<String, String> bodies(String text) {
        Map<String, String> bodies = new TreeMap<>();
        Matcher method = METHOD.matcher(text);
        while (method.find()) {
            check(bodies.put(method.group(1), method.group(3)) == null, "one method of the name " + method.group(1));
        }
        // Ten members of the public face: a test that finds fewer has not read the text.
        check(bodies.size() >= 10, "the methods are found: " + bodies.keySet());
        return bodies;
    }

    private static void arraysAreFields(String text) {
        for (String line : text.split("\n")) {
            boolean makes = line.contains("new ") || line.contains("= {");
            check(!makes || ARRAY_FIELD.matcher(line.strip()).matches(), "rule 4: made in a field's initialiser: " + line.strip());
        }
    }

    private static void noRecursionAndNotDeep(Map<String, String> bodies) {
        Set<String> level = new TreeSet<>(bodies.keySet());
        // A level holds what is called by the one before it; with recursion the levels never end.
        int deep = 0;
        while (!level.isEmpty() && deep <= bodies.size()) {
            deep++;
            Set<String> called = new TreeSet<>();
            for (String name : level) {
                CALL.matcher(bodies.get(name)).results().map(r -> r.group(1)).filter(bodies::containsKey).forEach(called::add);
            }
            level = called;
        }
        check(level.isEmpty(), "rule 8: no recursion: " + level);
        check(deep <= 6, "rule 10: calls go at most six deep, not " + deep);
    }

    private static void noCallInsideACall(Map<String, String> bodies) {
        bodies.forEach((name, body) -> {
            Matcher call = CALL.matcher(body);
            while (call.find()) {
                String arguments = insideParentheses(body, call.end());
                check(!CALL.matcher(arguments).find(), "rule 10: no call in the arguments (" + arguments + ") in " + name);
            }
        });
    }

    private static String insideParentheses(String body, int from) {
        int open = 1;
        int at = from;
        while (open > 0 && at < body.length()) {
            open += body.charAt(at) == '(' ? 1 : body.charAt(at) == ')' ? -1 : 0;
            at++;
        }
        return body.substring(from, at - 1);
    }

    private static void shortMethodsFewFields(String text, Map<String, String> bodies) {
        bodies.forEach((name, body) -> check(body.lines().count() <= 60, "rule 10: " + name + " is short"));
        Matcher method = METHOD.matcher(text);
        while (method.find()) {
            check(method.group(2).split(",").length <= 7, "rule 10: at most seven parameters in " + method.group(1));
        }
        long fields = found(FIELD, text).stream().filter(f -> !f.contains("static final")).count();
        check(fields >= 1 && fields <= 40, "rule 10: the class has at most some forty fields, not " + fields);
    }
}
