import java.lang.reflect.Method;
import java.lang.reflect.Modifier;
import java.nio.file.Files;
import java.nio.file.Path;
import java.util.ArrayList;
import java.util.List;
import java.util.Set;
import java.util.TreeSet;
import java.util.regex.Matcher;
import java.util.regex.Pattern;

/** The face of the class is the one that the document writes, and in its order. */
public final class FaceTest {
    private static final Pattern AHEAD = Pattern.compile(
            "Ahead of the calls (.*) the interface says: (---- .*)\\.");
    private static final Pattern DECLARED = Pattern.compile("(?m)^    (public [^;{]*)\\{");
    private static final Pattern CALL = Pattern.compile("public \\w+ (\\w+)\\(.*");
    private static final Pattern HEADING = Pattern.compile(" *// (---- .*)");

    public static void main(String[] args) throws Exception {
        String source = Files.readString(Path.of(args.length > 0 ? args[0]
                : "src/main/java/LiftingWorkshop.java"));
        List<String> due = faceOfDocument();
        Check.same("calls of the document's face", due.size(), 28);
        Check.same("the class", source.contains("\npublic final class LiftingWorkshop {\n"), true);
        Check.same("the face as it is written", faceOf(source).toString(), due.toString());
        Check.same("the face as it is compiled", compiledFace().toString(), bare(due).toString());
        Check.same("what stands ahead of the calls", headingsOf(source).toString(),
                headingsOfDocument().toString());
        Check.end();
    }

    private static List<String> faceOfDocument() {
        List<String> face = new ArrayList<>();
        for (String line : Check.textOf("The public face").split("\n")) {
            if (line.startsWith("    public ")) {
                face.add(line.trim().replace(";", ""));
            }
        }
        return face;
    }

    private static List<String> faceOf(String source) {
        List<String> face = new ArrayList<>();
        Matcher declared = DECLARED.matcher(source);
        while (declared.find()) {
            face.add(declared.group(1).replaceAll("\\s+", " ").trim());
        }
        return face;
    }

    /** The calls as Java knows them, without the names of their arguments. */
    private static Set<String> bare(List<String> face) {
        Set<String> bare = new TreeSet<>();
        for (String call : face) {
            if (CALL.matcher(call).matches()) {
                bare.add(call.replaceAll("(int) \\w+([,)])", "$1$2"));
            }
        }
        return bare;
    }

    private static Set<String> compiledFace() {
        Set<String> face = new TreeSet<>();
        for (Method method : LiftingWorkshop.class.getDeclaredMethods()) {
            if (!Modifier.isPrivate(method.getModifiers())) {
                face.add(method.toString().replace("java.lang.", "").replace("LiftingWorkshop.", "")
                        .replace(",", ", "));
            }
        }
        return face;
    }

    private static List<String> headingsOfDocument() {
        List<String> headings = new ArrayList<>();
        Matcher ahead = AHEAD.matcher(Check.textOf("Terms"));
        while (ahead.find()) {
            for (String name : ahead.group(1).replace("`", "").split(", ")) {
                headings.add(name + " " + ahead.group(2));
            }
        }
        return headings;
    }

    private static List<String> headingsOf(String source) {
        List<String> headings = new ArrayList<>();
        String last = "none";
        for (String line : source.split("\n")) {
            Matcher heading = HEADING.matcher(line);
            if (heading.matches()) {
                last = heading.group(1);
            }
            Matcher call = CALL.matcher(line.trim());
            if (line.startsWith("    public ") && call.matches()) {
                headings.add(call.group(1) + " " + last);
            }
        }
        return headings;
    }
}
