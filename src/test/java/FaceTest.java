import java.io.IOException;
import java.lang.reflect.Constructor;
import java.lang.reflect.Field;
import java.lang.reflect.Method;
import java.lang.reflect.Modifier;
import java.nio.file.Files;
import java.nio.file.Path;
import java.util.ArrayList;
import java.util.List;
import java.util.Map;
import java.util.Set;
import java.util.TreeMap;
import java.util.TreeSet;
import java.util.regex.Matcher;
import java.util.regex.Pattern;

/** The public face of the document, and what of LANGUAGE.md can be seen from outside. */
public final class FaceTest {
    private static final String[] FACE = {"boolean drop(int)", "boolean token(int, int)", "int equal()",
        "int matching()", "int open(int)", "int pairs(int)", "int place()", "int reduce()",
        "int rule(int)", "int size()", "int steps()", "int wipe()", "long at(int)"};
    private static final String[] OUTSIDE = {"import", "package", "throw", "throws", "try", "catch",
        "synchronized", "assert", "instanceof", "null", "float", "double", "String", "Math", "Integer",
        "Long", "System", "Arrays", "Object", "enum", "interface", "record", "protected", "->", "::",
        "\\[\\]\\[\\]", "\"", "static \\{"};

    private FaceTest() {
    }

    public static void main(String[] args) throws IOException {
        constants();
        members();
        source();
        methods();
        Check.end("FaceTest");
    }

    private static void constants() {
        Check.due("OK", RewritingDesk.OK, 0);
        Check.due("SYNTAX", RewritingDesk.SYNTAX, 1);
        Check.due("LONG", RewritingDesk.LONG, 2);
        Check.due("LARGE", RewritingDesk.LARGE, 3);
        Check.due("BAD", RewritingDesk.BAD, -1);
        Check.due("NONE", RewritingDesk.NONE, -2);
    }

    private static void members() {
        List<String> open = new ArrayList<>();
        List<String> hidden = new ArrayList<>();
        for (Method method : RewritingDesk.class.getDeclaredMethods()) {
            List<String> types = new ArrayList<>();
            for (Class<?> type : method.getParameterTypes()) {
                types.add(type.getSimpleName());
            }
            String text = method.getReturnType().getSimpleName() + " " + method.getName() + "("
                + String.join(", ", types) + ")";
            if (Modifier.isPrivate(method.getModifiers())) {
                hidden.add(method.getName());
            } else {
                open.add((Modifier.isPublic(method.getModifiers()) ? "" : "not public: ") + text);
            }
            Check.due("at most seven parameters of " + text, types.size() <= 7, true);
        }
        Check.due("the methods", String.join("; ", new TreeSet<>(open)), String.join("; ", FACE));
        for (Method method : RewritingDesk.class.getMethods()) {
            Check.due("a private " + method.getName(), hidden.contains(method.getName()), false);
        }
        Constructor<?>[] constructors = RewritingDesk.class.getDeclaredConstructors();
        Check.due("constructors", constructors.length, 1);
        Check.due("parameters of the constructor", constructors[0].getParameterCount(), 0);
        Check.due("a public constructor", Modifier.isPublic(constructors[0].getModifiers()), true);
        Check.due("a public final class", RewritingDesk.class.getModifiers(), Modifier.PUBLIC | Modifier.FINAL);
        Check.due("nested classes", RewritingDesk.class.getDeclaredClasses().length, 0);
        fields();
    }

    private static void fields() {
        int held = 0;
        int constants = 0;
        for (Field field : RewritingDesk.class.getDeclaredFields()) {
            int modifiers = field.getModifiers();
            Class<?> type = field.getType();
            if (Modifier.isStatic(modifiers)) {
                constants += Modifier.isPublic(modifiers) ? 1 : 0;
                Check.due(field + " is a constant of int or long",
                    Modifier.isFinal(modifiers) && (type == int.class || type == long.class), true);
            } else {
                held++;
                Check.due(field + " is private", Modifier.isPrivate(modifiers), true);
                Class<?> plain = type.isArray() ? type.getComponentType() : type;
                Check.due(field + " is of numbers", plain.isPrimitive(), true);
            }
        }
        Check.due("public constants", constants, 6);
        Check.due("at most forty fields", held <= 40, true);
    }

    private static String code() throws IOException {
        String text = Files.readString(Path.of("src/main/java/RewritingDesk.java"));
        return text.replaceAll("(?s)/\\*.*?\\*/", "").replaceAll("//[^\n]*", "");
    }

    private static void source() throws IOException {
        String code = code();
        for (String word : OUTSIDE) {
            boolean isWord = Character.isLetter(word.charAt(0)) && Character.isLetter(word.charAt(word.length() - 1));
            Matcher found = Pattern.compile(isWord ? "\\b" + word + "\\b" : word).matcher(code);
            Check.due("the source has " + word, found.find(), false);
        }
        for (String line : code.split("\n")) {
            boolean isField = line.startsWith("    private final ") && line.endsWith("];");
            Check.due("an array is made in: " + line, line.matches(".*\\bnew\\b.*") && !isField, false);
        }
    }

    /** The methods' bodies by their names; the class has no two methods of one name. */
    private static Map<String, String> bodies() throws IOException {
        String head = "^    (?:public|private)(?: static)? \\w+ (\\w+)\\([^)]*\\) \\{\n";
        Matcher method = Pattern.compile("(?ms)" + head + "(.*?)^    \\}").matcher(code());
        Map<String, String> bodies = new TreeMap<>();
        while (method.find()) {
            bodies.put(method.group(1), method.group(2));
        }
        return bodies;
    }

    private static void methods() throws IOException {
        Map<String, String> bodies = bodies();
        Check.due("methods found", bodies.size(), RewritingDesk.class.getDeclaredMethods().length);
        Pattern call = Pattern.compile("\\b(" + String.join("|", bodies.keySet()) + ")\\(");
        Map<String, Set<String>> calls = new TreeMap<>();
        bodies.forEach((name, body) -> {
            Check.due("at most sixty lines of " + name, body.lines().count() <= 60, true);
            Check.due("a while loop in " + name, body.contains("while"), false);
            calls.put(name, new TreeSet<>());
            Matcher found = call.matcher(body);
            while (found.find()) {
                calls.get(name).add(found.group(1));
                String arguments = argumentsAt(body, found.end());
                Check.due("a call inside " + found.group(1) + "(" + arguments + ")",
                    call.matcher(arguments).find(), false);
            }
        });
        for (String name : bodies.keySet()) {
            Check.due("calls at most six deep from " + name, depth(name, calls, 1) <= 6, true);
        }
    }

    private static String argumentsAt(String body, int start) {
        int inside = 1;
        int end = start;
        for (; inside > 0; end++) {
            inside += body.charAt(end) == '(' ? 1 : body.charAt(end) == ')' ? -1 : 0;
        }
        return body.substring(start, end - 1);
    }

    /** Above the limit it goes no further, so that a recursion counts as too deep. */
    private static int depth(String name, Map<String, Set<String>> calls, int level) {
        int deepest = level;
        for (String called : calls.get(name)) {
            deepest = Math.max(deepest, level > 6 ? level : depth(called, calls, level + 1));
        }
        return deepest;
    }
}
