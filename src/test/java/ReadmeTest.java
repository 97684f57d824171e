import java.io.IOException;
import java.lang.reflect.Method;
import java.lang.reflect.Modifier;
import java.nio.file.Files;
import java.nio.file.Path;
import java.util.ArrayList;
import java.util.List;
import java.util.regex.Matcher;
import java.util.regex.Pattern;

/** Calls as README.md and the document write them, made one by one. */
public final class ReadmeTest {
    private static final Path README = Path.of("README.md");
    private static final Path DOCUMENT = Path.of("..", "shared", "DOC.md");
    private static final Pattern README_CALL = Pattern.compile("keeper\\.(\\w+)\\(([^)]*)\\);\\s*// (-?\\d+)\\b");
    private static final Pattern DOCUMENT_CALL = Pattern.compile("(\\w+)\\(([^)]*)\\) = (-?\\d+)\\b");

    private static final Checks checks = new Checks();

    public static void main(String[] args) throws IOException, ReflectiveOperationException {
        String readme = Files.readString(README);
        exampleOfReadme(readme);
        membersInReadme(readme);
        testsInReadme(readme);
        examplesOfDocument(Files.readString(DOCUMENT));
        checks.end();
    }

    private static void exampleOfReadme(String readme) throws ReflectiveOperationException {
        String example = readme.substring(readme.indexOf("```java"), readme.lastIndexOf("```"));
        CutTreeKeeper keeper = new CutTreeKeeper();
        int told = 0;
        for (String line : example.split("\n")) {
            if (!line.startsWith("keeper.")) continue;
            Matcher call = README_CALL.matcher(line);
            if (call.find()) {
                make(keeper, "README", call);
                told++;
            } else {
                checks.holds("an answer stands behind " + line, false);
            }
        }
        checks.holds("README tells answers", told > 0);
    }

    private static void membersInReadme(String readme) throws ReflectiveOperationException {
        for (Method method : CutTreeKeeper.class.getDeclaredMethods()) {
            if (!Modifier.isPublic(method.getModifiers())) continue;
            checks.holds("README tells of " + method.getName(), readme.contains("`" + method.getName() + "("));
        }
        for (String name : List.of("NO_SUCH_NODE", "SAME_NODE", "BAD_VALUE", "NO_TREE", "NONE")) {
            int value = CutTreeKeeper.class.getField(name).getInt(null);
            checks.holds("README tells of " + name, readme.contains("| `" + name + "` | " + value + " |"));
        }
    }

    private static void testsInReadme(String readme) throws IOException {
        List<Path> files = new ArrayList<>();
        try (var found = Files.list(Path.of("src", "test", "java"))) {
            found.forEach(files::add);
        }
        for (Path file : files) {
            String name = file.getFileName().toString().replace(".java", "");
            if (name.endsWith("Test")) checks.holds("README tells of " + name, readme.contains("| `" + name + "` |"));
        }
    }

    private static void examplesOfDocument(String document) throws ReflectiveOperationException {
        int examples = 0;
        for (String line : document.split("\n")) {
            if (!line.matches("\\d\\. .*")) continue;
            examples++;
            CutTreeKeeper keeper = new CutTreeKeeper();
            Matcher call = DOCUMENT_CALL.matcher(line);
            while (call.find()) make(keeper, "example " + examples, call);
        }
        checks.due("examples in the document", examples, 3);
    }

    /** Makes a call that is written as a name, arguments and the answer. */
    private static void make(CutTreeKeeper keeper, String where, Matcher call) throws ReflectiveOperationException {
        String[] words = call.group(2).isBlank() ? new String[0] : call.group(2).split(",\\s*");
        Class<?>[] types = new Class<?>[words.length];
        Object[] arguments = new Object[words.length];
        for (int k = 0; k < words.length; k++) {
            types[k] = int.class;
            arguments[k] = Integer.valueOf(words[k].trim());
        }
        int got = (Integer) CutTreeKeeper.class.getMethod(call.group(1), types).invoke(keeper, arguments);
        checks.due(where + ": " + call.group(1) + "(" + call.group(2) + ")", got, Integer.parseInt(call.group(3)));
    }
}
