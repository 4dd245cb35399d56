import java.io.ByteArrayOutputStream;
import java.io.PrintStream;
import java.net.URL;
import java.net.URLClassLoader;
import java.nio.file.Files;
import java.nio.file.Path;
import java.util.regex.Matcher;
import java.util.regex.Pattern;

/** The example of README.md compiles, and prints what README.md says. */
public final class ReadmeTest {
    private static final String EXAMPLE = "Example";

    public static void main(String[] args) throws Exception {
        String readme = Files.readString(Path.of("README.md"));
        Check.same("the way to run the tests is named", readme.contains("\n    .ci/run\n"), true);
        Path place = Files.createTempDirectory("readme");
        Path source = place.resolve(EXAMPLE + ".java");
        Path compiled = place.resolve(EXAMPLE + ".class");
        try {
            Files.writeString(source, block(readme, "java"));
            int failed = new ProcessBuilder("javac", "-cp", System.getProperty("java.class.path"),
                    "-d", place.toString(), source.toString()).inheritIO().start().waitFor();
            Check.same("the compiler", failed, 0);
            if (failed == 0) {
                Check.same("the example", printedBy(place), block(readme, "text"));
            }
        } finally {
            Files.deleteIfExists(compiled);
            Files.deleteIfExists(source);
            Files.deleteIfExists(place);
        }
        Check.end();
    }

    /** What stands between a line of three backquotes and this word, and the next such line. */
    private static String block(String readme, String word) {
        Matcher found = Pattern.compile("(?s)\n```" + word + "\n(.+?\n)```\n").matcher(readme);
        if (!found.find()) {
            Check.report("README.md has no block of " + word);
            return "";
        }
        return found.group(1);
    }

    private static String printedBy(Path place) throws Exception {
        ByteArrayOutputStream printed = new ByteArrayOutputStream();
        PrintStream out = System.out;
        try (URLClassLoader loader = new URLClassLoader(new URL[] {place.toUri().toURL()})) {
            System.setOut(new PrintStream(printed, true));
            loader.loadClass(EXAMPLE).getMethod("main", String[].class)
                    .invoke(null, (Object) new String[0]);
        } finally {
            System.setOut(out);
        }
        return printed.toString().replace("\r\n", "\n");
    }
}
