import java.io.IOException;
import java.lang.reflect.Field;
import java.lang.reflect.Method;
import java.lang.reflect.Modifier;
import java.nio.file.Files;
import java.nio.file.Path;
import java.util.Set;
import java.util.TreeSet;
import java.util.regex.Pattern;

/** The face that the document tells, and what of LANGUAGE.md a machine can look up. */
public final class FaceTest {
    private static final Answers answers = new Answers();
    private static final String[] METHODS = {
        "add 3", "remove 1", "move 3", "setCrowd 1", "setTithe 1", "pay 1", "join 1", "undo 0", "count 1", "point 2",
        "parish 2", "debt 2", "at 2", "range 5", "nearest 2", "inOrder 1", "payable 1", "cellsWith 1", "joinable 0"
    };

    public static void main(String[] args) throws IOException {
        constants();
        methods();
        fields();
        classesInside();
        source();
        answers.end();
    }

    private static void constants() {
        answers.due("INVALID_ARGUMENT", -1, TitheGrid.INVALID_ARGUMENT);
        answers.due("ILLEGAL_STATE", -2, TitheGrid.ILLEGAL_STATE);
        answers.due("CAPACITY_EXCEEDED", -3, TitheGrid.CAPACITY_EXCEEDED);
        answers.due("NONE", -9, TitheGrid.NONE);
    }

    private static void methods() {
        Set<String> wanted = new TreeSet<>(Set.of(METHODS));
        Set<String> found = new TreeSet<>();
        for (Method method : TitheGrid.class.getDeclaredMethods()) {
            if (Modifier.isPrivate(method.getModifiers())) {
                answers.dueTrue("private " + method.getName() + " has a name of its own", !isPublicName(method.getName()));
                continue;
            }
            answers.due("modifiers of " + method.getName(), Modifier.PUBLIC, method.getModifiers());
            answers.dueTrue("int " + method.getName(), method.getReturnType() == int.class);
            for (Class<?> type : method.getParameterTypes()) {
                answers.dueTrue("int arguments of " + method.getName(), type == int.class);
            }
            found.add(method.getName() + " " + method.getParameterCount());
        }
        answers.dueTrue("the methods are " + wanted + ", found " + found, wanted.equals(found));
        answers.due("modifiers of TitheGrid", Modifier.PUBLIC | Modifier.FINAL, TitheGrid.class.getModifiers());
        answers.due("constructors", 1, TitheGrid.class.getDeclaredConstructors().length);
        answers.due("public constructors", 1, TitheGrid.class.getConstructors().length);
    }

    private static boolean isPublicName(String name) {
        for (String method : METHODS) {
            if (method.startsWith(name + " ")) {
                return true;
            }
        }
        return false;
    }

    private static void fields() {
        int open = 0;
        for (Field field : TitheGrid.class.getDeclaredFields()) {
            if (!Modifier.isPrivate(field.getModifiers())) {
                open++;
                answers.due("modifiers of " + field.getName(), Modifier.PUBLIC | Modifier.STATIC | Modifier.FINAL,
                    field.getModifiers());
            }
        }
        answers.due("fields that are not private", 4, open);
    }

    private static void classesInside() {
        answers.dueTrue("twelve classes at most", TitheGrid.class.getDeclaredClasses().length < 12);
        for (Class<?> inside : TitheGrid.class.getDeclaredClasses()) {
            answers.dueTrue(inside + " has twenty fields at most", inside.getDeclaredFields().length <= 20);
            int modifiers = inside.getModifiers();
            answers.dueTrue(inside + " is static", Modifier.isStatic(modifiers));
            answers.dueTrue(inside + " is not public", !Modifier.isPublic(modifiers) && !Modifier.isProtected(modifiers));
            for (Field field : inside.getDeclaredFields()) {
                boolean shared = Modifier.isStatic(field.getModifiers());
                answers.dueTrue(field + " is final if static", !shared || Modifier.isFinal(field.getModifiers()));
            }
            for (Method method : inside.getDeclaredMethods()) {
                answers.dueTrue(method + " has a name of its own", !isPublicName(method.getName()));
                answers.dueTrue(method + " takes seven at most", method.getParameterCount() <= 7);
            }
        }
    }

    private static void source() throws IOException {
        String text = Files.readString(Path.of("src/main/java/TitheGrid.java"));
        String code = text.replaceAll("(?s)/\\*.*?\\*/", " ").replaceAll("//[^\n]*", " ");
        String[] forbidden = {
            "\\bthrow\\b", "\\bthrows\\b", "\\btry\\b", "\\bcatch\\b", "\\bsynchronized\\b", "\\bassert\\b",
            "\\bimport\\s+(?!java\\.util\\.)", "\\bpackage\\b", "->", "::", "\\bhashCode\\b", "Exact\\b",
            "\\bstatic\\s*\\{", "[^\\x00-\\x7f]"
        };
        for (String pattern : forbidden) {
            answers.dueTrue("no " + pattern + " in the source", !Pattern.compile(pattern).matcher(code).find());
        }
    }
}
