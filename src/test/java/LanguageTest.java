import java.lang.reflect.Constructor;
import java.lang.reflect.Field;
import java.lang.reflect.Method;
import java.lang.reflect.Modifier;
import java.nio.file.Files;
import java.nio.file.Path;
import java.util.Set;
import java.util.TreeSet;
import java.util.regex.Matcher;
import java.util.regex.Pattern;

/** The face of the class, and those rules of LANGUAGE.md that a look at the source can tell. */
public final class LanguageTest {
    private static final String INDEX = "IndexOutOfBoundsException";
    private static final String ARGUMENT = "IllegalArgumentException";
    private static final String STATE = "IllegalStateException";
    private static final String[] FACE = {
        face("int begin(int)", ARGUMENT),
        face("long setSample(int,int)", INDEX, ARGUMENT, STATE),
        face("long sample(int)", INDEX),
        face("int length()"),
        face("int setWavelet(int)", ARGUMENT, STATE),
        face("int split(int)", INDEX, STATE),
        face("int join(int)", INDEX, STATE),
        face("boolean isNode(int)"),
        face("boolean isLeaf(int)", INDEX),
        face("int leaves()"),
        face("int leafAt(int)", INDEX),
        face("int costOf(int)", INDEX),
        face("int chooseBasis(int)", ARGUMENT),
        face("int sizeOf(int)", INDEX, STATE),
        face("long number(int,int)", INDEX, STATE),
        face("long setNumber(int,int,int)", INDEX, STATE, ARGUMENT),
        face("long filtered(int,int)", INDEX, STATE),
        face("int hard(int,int)", INDEX, ARGUMENT, STATE),
        face("int soft(int,int)", INDEX, ARGUMENT, STATE),
        face("long risk(int,int,int)", INDEX, ARGUMENT, STATE),
        face("long bestThreshold(int,int)", INDEX, ARGUMENT, STATE),
        face("boolean isPyramid()"),
        face("int bits()", STATE),
        face("int bitAt(int)", STATE, INDEX),
        face("long broughtBack(int,int)", STATE, ARGUMENT, INDEX),
        face("long errorWith(int)", STATE, ARGUMENT),
        face("int bitsFor(int)", STATE, ARGUMENT)};
    private static final String[] RULED_OUT = {"^\\s*import ", "^\\s*package ", "->", "::", "\\bcatch\\b",
        "\\btry\\b", "\\bfinally\\b", "\\bsynchronized\\b", "\\bassert\\b", "\\binstanceof\\b",
        "\\w*Exact\\b", "\\bString\\b", "\\bdouble\\b", "\\bfloat\\b", "\\bSystem\\b", "static \\{",
        "Math\\.(?!min\\b|max\\b|abs\\b)", "\\b(Long|Integer|Arrays)\\."};

    public static void main(String[] args) throws Exception {
        methods();
        fieldsAndConstructors();
        source(Files.readString(Path.of(args.length > 0 ? args[0]
                : "src/main/java/LiftingWorkshop.java")));
        Check.end();
    }

    private static String face(String method, String... thrown) {
        StringBuilder text = new StringBuilder("public ").append(method);
        for (int k = 0; k < thrown.length; k++) {
            text.append(k == 0 ? " throws " : ",").append(thrown[k]);
        }
        return text.toString();
    }

    private static void methods() {
        Set<String> due = new TreeSet<>(Set.of(FACE));
        Set<String> names = new TreeSet<>();
        Set<String> got = new TreeSet<>();
        for (Method method : LiftingWorkshop.class.getDeclaredMethods()) {
            if (!Modifier.isPrivate(method.getModifiers())) {
                got.add(method.toString().replace("java.lang.", "").replace("LiftingWorkshop.", ""));
                names.add(method.getName());
            }
        }
        Check.same("the face", got.toString(), due.toString());
        for (Method method : LiftingWorkshop.class.getDeclaredMethods()) {
            if (Modifier.isPrivate(method.getModifiers())) {
                Check.same("a public name: " + method.getName(),
                        names.contains(method.getName()), false);
            }
        }
    }

    private static void fieldsAndConstructors() {
        Check.same("final", Modifier.isFinal(LiftingWorkshop.class.getModifiers()), true);
        Constructor<?>[] constructors = LiftingWorkshop.class.getDeclaredConstructors();
        Check.same("constructors", constructors.length, 1);
        Check.same("public constructor", constructors[0].toString(), "public LiftingWorkshop()");
        for (Field field : LiftingWorkshop.class.getDeclaredFields()) {
            Check.same("private " + field, Modifier.isPrivate(field.getModifiers()), true);
        }
        for (Class<?> inside : LiftingWorkshop.class.getDeclaredClasses()) {
            Check.same("static " + inside, Modifier.isStatic(inside.getModifiers()), true);
            for (Field field : inside.getDeclaredFields()) {
                boolean variable = Modifier.isStatic(field.getModifiers())
                        && !Modifier.isFinal(field.getModifiers());
                Check.same("static state " + field, variable, false);
            }
        }
    }

    private static void source(String text) {
        String code = text.replaceAll("(?s)/\\*.*?\\*/", "").replaceAll("//[^\n]*", "")
                .replaceAll("\"[^\"\n]*\"", "TEXT");
        for (String pattern : RULED_OUT) {
            Matcher found = Pattern.compile(pattern, Pattern.MULTILINE).matcher(code);
            if (found.find()) {
                Check.report("LANGUAGE.md has no " + found.group());
            }
        }
        Matcher thrown = Pattern.compile("throw\\b(.*)").matcher(code);
        while (thrown.find()) {
            Check.same("thrown as written:" + thrown.group(1), thrown.group(1).matches(
                    " new (" + INDEX + "|" + ARGUMENT + "|" + STATE + ")\\(TEXT\\);"), true);
        }
        shape(text);
    }

    private static void shape(String text) {
        int start = 0;
        int number = 0;
        for (String line : text.split("\n", -1)) {
            number++;
            if (line.matches("( {4}| {8})\\S.*\\{") && !line.contains(" class ")) {
                start = number;
            }
            if (line.matches("( {4}| {8})}")) {
                Check.same("short method before line " + number, number - start <= 60, true);
            }
            Check.same("at most 100 signs in line " + number, line.length() <= 100, true);
        }
    }
}
