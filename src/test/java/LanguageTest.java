import java.lang.reflect.Constructor;
import java.lang.reflect.Field;
import java.lang.reflect.Method;
import java.lang.reflect.Modifier;
import java.nio.file.Files;
import java.nio.file.Path;
import java.util.Set;
import java.util.TreeSet;
import java.util.regex.Matcher;
import java.util.regex.Pattern;

/** Those rules of LANGUAGE.md that a look at the class and at its source can tell. */
public final class LanguageTest {
    private static final String INDEX = "IndexOutOfBoundsException";
    private static final String ARGUMENT = "IllegalArgumentException";
    private static final String STATE = "IllegalStateException";
    private static final String[] RULED_OUT = {"^\\s*import ", "^\\s*package ", "->", "::", "\\bcatch\\b",
        "\\btry\\b", "\\bfinally\\b", "\\bsynchronized\\b", "\\bassert\\b", "\\binstanceof\\b",
        "\\w*Exact\\b", "\\bString\\b", "\\bdouble\\b", "\\bfloat\\b", "\\bSystem\\b", "static \\{",
        "Math\\.(?!min\\b|max\\b|abs\\b)", "\\b(Long|Integer|Arrays)\\."};

    public static void main(String[] args) throws Exception {
        names();
        sizes(LiftingWorkshop.class);
        Check.same("at most twelve classes", LiftingWorkshop.class.getDeclaredClasses().length <= 12,
                true);
        for (Class<?> inside : LiftingWorkshop.class.getDeclaredClasses()) {
            sizes(inside);
        }
        fieldsAndConstructors();
        source(Files.readString(Path.of(args.length > 0 ? args[0]
                : "src/main/java/LiftingWorkshop.java")));
        Check.end();
    }

    /** No private method bears the name of a public one. */
    private static void names() {
        Set<String> names = new TreeSet<>();
        for (Method method : LiftingWorkshop.class.getDeclaredMethods()) {
            if (!Modifier.isPrivate(method.getModifiers())) {
                names.add(method.getName());
            }
        }
        for (Method method : LiftingWorkshop.class.getDeclaredMethods()) {
            if (Modifier.isPrivate(method.getModifiers())) {
                Check.same("a public name: " + method.getName(),
                        names.contains(method.getName()), false);
            }
        }
    }

    private static void sizes(Class<?> type) {
        int fields = 0;
        for (Field field : type.getDeclaredFields()) {
            if (!Modifier.isStatic(field.getModifiers())) {
                fields++;
            }
        }
        Check.same("at most twenty fields in " + type, fields <= 20, true);
        for (Method method : type.getDeclaredMethods()) {
            Check.same("at most seven parameters of " + method, method.getParameterCount() <= 7, true);
        }
    }

    private static void fieldsAndConstructors() {
        Check.same("final", Modifier.isFinal(LiftingWorkshop.class.getModifiers()), true);
        Constructor<?>[] constructors = LiftingWorkshop.class.getDeclaredConstructors();
        Check.same("constructors", constructors.length, 1);
        Check.same("public constructor", constructors[0].toString(), "public LiftingWorkshop()");
        for (Field field : LiftingWorkshop.class.getDeclaredFields()) {
            Check.same("private " + field, Modifier.isPrivate(field.getModifiers()), true);
        }
        for (Class<?> inside : LiftingWorkshop.class.getDeclaredClasses()) {
            Check.same("static " + inside, Modifier.isStatic(inside.getModifiers()), true);
            for (Field field : inside.getDeclaredFields()) {
                boolean variable = Modifier.isStatic(field.getModifiers())
                        && !Modifier.isFinal(field.getModifiers());
                Check.same("static state " + field, variable, false);
            }
        }
    }

    private static void source(String text) {
        String code = text.replaceAll("(?s)/\\*.*?\\*/", "").replaceAll("//[^\n]*", "")
                .replaceAll("\"[^\"\n]*\"", "TEXT");
        for (String pattern : RULED_OUT) {
            Matcher found = Pattern.compile(pattern, Pattern.MULTILINE).matcher(code);
            if (found.find()) {
                Check.report("LANGUAGE.md has no " + found.group());
            }
        }
        Matcher thrown = Pattern.compile("throw\\b(.*)").matcher(code);
        while (thrown.find()) {
            Check.same("thrown as written:" + thrown.group(1), thrown.group(1).matches(
                    " new (" + INDEX + "|" + ARGUMENT + "|" + STATE + ")\\(TEXT\\);"), true);
        }
        shape(text);
    }

    private static void shape(String text) {
        int start = 0;
        int number = 0;
        for (String line : text.split("\n", -1)) {
            number++;
            if (line.matches("( {4}| {8})\\S.*\\{") && !line.contains(" class ")) {
                start = number;
            }
            if (line.matches("( {4}| {8})}")) {
                Check.same("short method before line " + number, number - start <= 60, true);
            }
            Check.same("at most 100 signs in line " + number, line.length() <= 100, true);
        }
    }
}
