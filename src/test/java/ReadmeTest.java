import java.io.IOException;
import java.lang.reflect.Method;
import java.lang.reflect.Modifier;
import java.nio.file.Files;
import java.nio.file.Path;
import java.util.ArrayList;
import java.util.List;
import java.util.regex.Matcher;
import java.util.regex.Pattern;

/** What README.md shows: the face of the document, every call, and examples that answer as it says. */
public final class ReadmeTest {
    private static final Pattern JAVA = Pattern.compile("(?s)```java\n(.*?)```");
    private static final Pattern CALL = Pattern.compile("desk\\.(\\w+)\\(([^)]*)\\);\\s*");
    private static final String NEW_DESK = "RewritingDesk desk = new RewritingDesk();";

    private ReadmeTest() {
    }

    public static void main(String[] args) throws ReflectiveOperationException, IOException {
        List<String> blocks = javaOf(Path.of("README.md"));
        List<String> document = javaOf(Path.of("../shared/DOC.md"));
        Check.due("the face in README.md", blocks.get(0), document.get(0));
        int examples = 0;
        for (String block : blocks) {
            if (block.startsWith(NEW_DESK)) {
                examples++;
                follow(block);
            }
        }
        Check.due("examples", examples, blocks.size() - 1);
        everyCall(String.join("", blocks.subList(1, blocks.size())));
        testsNamed();
        Check.end("ReadmeTest");
    }

    private static List<String> javaOf(Path file) throws IOException {
        Matcher found = JAVA.matcher(Files.readString(file));
        List<String> blocks = new ArrayList<>();
        while (found.find()) {
            blocks.add(found.group(1));
        }
        return blocks;
    }

    private static void follow(String block) throws ReflectiveOperationException {
        RewritingDesk desk = new RewritingDesk();
        for (String line : block.split("\n")) {
            if (line.isEmpty() || line.startsWith("//") || line.equals(NEW_DESK)) {
                continue;
            }
            int comment = line.indexOf("//");
            Check.due("an answer behind: " + line, comment > 0, true);
            if (comment < 0) {
                continue;
            }
            String due = line.substring(comment + 2).trim().split("[:\\s]")[0];
            Matcher call = CALL.matcher(line.substring(0, comment));
            int end = 0;
            for (; call.find() && call.start() == end; end = call.end()) {
                Check.due(line, answerOf(desk, call.group(1), call.group(2)), valueOf(due));
            }
            Check.due("what is read of: " + line, end, comment);
        }
    }

    private static long answerOf(RewritingDesk desk, String name, String text) throws ReflectiveOperationException {
        String[] words = text.isEmpty() ? new String[0] : text.split(", ");
        Class<?>[] types = new Class<?>[words.length];
        Object[] values = new Object[words.length];
        for (int k = 0; k < words.length; k++) {
            types[k] = int.class;
            values[k] = Integer.valueOf(words[k]);
        }
        Object answer = RewritingDesk.class.getMethod(name, types).invoke(desk, values);
        return answer instanceof Boolean yes ? (yes ? 1 : 0) : ((Number) answer).longValue();
    }

    private static long valueOf(String due) throws ReflectiveOperationException {
        if (due.equals("true") || due.equals("false")) {
            return due.equals("true") ? 1 : 0;
        }
        boolean isName = Character.isLetter(due.charAt(0));
        return isName ? RewritingDesk.class.getField(due).getInt(null) : Long.parseLong(due);
    }

    /** Each public method has a row in the table of the calls, and stands in an example. */
    private static void everyCall(String examples) throws IOException {
        String text = Files.readString(Path.of("README.md"));
        for (Method method : RewritingDesk.class.getDeclaredMethods()) {
            if (Modifier.isPublic(method.getModifiers())) {
                String name = method.getName();
                Check.due("a row for " + name, text.contains("\n| `" + name + "("), true);
                Check.due("an example of " + name, examples.contains("desk." + name + "("), true);
            }
        }
    }

    private static void testsNamed() throws IOException {
        String text = Files.readString(Path.of("README.md"));
        Check.due("how to run the tests", text.contains("\n.ci/run\n"), true);
        try (var files = Files.list(Path.of("src/test/java"))) {
            for (Path file : files.toList()) {
                String name = file.getFileName().toString().replace(".java", "");
                Check.due(name + " is named", !name.endsWith("Test") || text.contains("`" + name + "`"), true);
            }
        }
    }
}
