import java.io.IOException;
import java.lang.reflect.Constructor;
import java.lang.reflect.Field;
import java.lang.reflect.Method;
import java.lang.reflect.Modifier;
import java.nio.file.Files;
import java.nio.file.Path;
import java.util.Arrays;
import java.util.List;
import java.util.Set;
import java.util.TreeSet;
import java.util.regex.Matcher;
import java.util.regex.Pattern;

/** The public face, and those rules of LANGUAGE.md that can be told from members and words. */
public final class FaceTest {
    private static final Path SOURCE = Path.of("src", "main", "java", "CutTreeKeeper.java");
    private static final List<String> CONSTANTS =
        List.of("NO_SUCH_NODE", "SAME_NODE", "BAD_VALUE", "NO_TREE", "NONE");
    // Each method with the number of its int arguments.
    private static final Set<String> METHODS = new TreeSet<>(List.of(
        "reset 1", "setCapacity 3", "undo 0", "capacity 2", "count 1", "cutWeight 1", "build 0",
        "isFresh 0", "parent 1", "label 1", "side 1", "loss 0", "lowerBound 2", "upperBound 2",
        "minimumCut 2", "witness 2", "isAtLeast 3", "lightCut 1", "classCount 1", "classOf 2",
        "partner 1", "leastAcross 1"));

    private static final Checks checks = new Checks();

    public static void main(String[] args) throws IOException {
        theClass();
        constants();
        methods();
        classesInside();
        words();
        checks.end();
    }

    private static void theClass() {
        Class<?> face = CutTreeKeeper.class;
        checks.holds("public and final", Modifier.isPublic(face.getModifiers()) && Modifier.isFinal(face.getModifiers()));
        checks.holds("no class above it", face.getSuperclass() == Object.class && face.getInterfaces().length == 0);
        Constructor<?>[] constructors = face.getDeclaredConstructors();
        checks.due("constructors", constructors.length, 1);
        checks.holds("the constructor is public", Modifier.isPublic(constructors[0].getModifiers()));
        checks.due("the constructor's arguments", constructors[0].getParameterCount(), 0);
    }

    private static void constants() {
        Set<String> found = new TreeSet<>();
        for (Field field : CutTreeKeeper.class.getDeclaredFields()) {
            if (Modifier.isPrivate(field.getModifiers())) continue;
            found.add(field.getName());
            int kind = Modifier.PUBLIC | Modifier.STATIC | Modifier.FINAL;
            checks.holds(field.getName() + " is a constant", field.getModifiers() == kind && field.getType() == int.class);
        }
        checks.holds("constants " + found, found.equals(new TreeSet<>(CONSTANTS)));
        checks.due("NO_SUCH_NODE", CutTreeKeeper.NO_SUCH_NODE, -1);
        checks.due("SAME_NODE", CutTreeKeeper.SAME_NODE, -2);
        checks.due("BAD_VALUE", CutTreeKeeper.BAD_VALUE, -3);
        checks.due("NO_TREE", CutTreeKeeper.NO_TREE, -4);
        checks.due("NONE", CutTreeKeeper.NONE, -5);
    }

    private static void methods() {
        Set<String> found = new TreeSet<>();
        for (Method method : CutTreeKeeper.class.getDeclaredMethods()) {
            if (Modifier.isPrivate(method.getModifiers())) continue;
            found.add(method.getName() + " " + method.getParameterCount());
            checks.holds(method.getName() + " is public", method.getModifiers() == Modifier.PUBLIC);
            checks.holds(method.getName() + " answers an int", method.getReturnType() == int.class);
            checks.holds(method.getName() + " takes ints",
                Arrays.stream(method.getParameterTypes()).allMatch(type -> type == int.class));
        }
        checks.holds("methods " + found, found.equals(METHODS));
    }

    private static void classesInside() {
        Class<?>[] inside = CutTreeKeeper.class.getDeclaredClasses();
        checks.holds("some twelve classes at most", inside.length < 12);
        notNamedLikeTheFace(CutTreeKeeper.class);
        for (Class<?> each : inside) {
            int kind = each.getModifiers();
            checks.holds(each + " is static", Modifier.isStatic(kind));
            checks.holds(each + " is hidden", !Modifier.isPublic(kind) && !Modifier.isProtected(kind));
            notNamedLikeTheFace(each);
        }
    }

    private static void notNamedLikeTheFace(Class<?> one) {
        int fields = 0;
        for (Field field : one.getDeclaredFields()) {
            if (Modifier.isStatic(field.getModifiers())) {
                checks.holds(field + " is final", Modifier.isFinal(field.getModifiers()));
            } else {
                fields++;
            }
        }
        checks.holds(one + " has some twenty fields at most", fields <= 20);
        for (Method method : one.getDeclaredMethods()) {
            checks.holds(method + " takes seven arguments at most", method.getParameterCount() <= 7);
            checks.holds(method + " is not synthetic", !method.isSynthetic());
            if (one == CutTreeKeeper.class && Modifier.isPublic(method.getModifiers())) continue;
            String name = method.getName();
            checks.holds(method + " has a name of its own", METHODS.stream().noneMatch(due -> due.startsWith(name + " ")));
        }
    }

    private static void words() throws IOException {
        String source = Files.readString(SOURCE);
        checks.holds("signs 1 to 127 alone", source.chars().allMatch(sign -> sign >= 1 && sign <= 127));
        String code = source.replaceAll("(?s)/\\*.*?\\*/", " ").replaceAll("//[^\n]*", " ");
        for (String word : List.of("throw", "throws", "try", "catch", "synchronized", "assert", "package", "System.exit",
                "Random", "Thread", "nanoTime", "currentTimeMillis", "->", "::", "Exact", "var ",
                "Integer.MAX_VALUE", "Integer.MIN_VALUE")) {
            checks.holds("no '" + word + "'", !Pattern.compile(
                Character.isLetter(word.charAt(0)) ? "\\b" + Pattern.quote(word) : Pattern.quote(word)).matcher(code).find());
        }
        Matcher imports = Pattern.compile("\\bimport\\s+([^;]+);").matcher(code);
        while (imports.find()) {
            checks.holds("import of " + imports.group(1),
                Set.of("java.util.Arrays", "java.util.ArrayList", "java.util.List").contains(imports.group(1)));
        }
    }
}
