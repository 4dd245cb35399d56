import java.nio.file.DirectoryStream;
import java.nio.file.Files;
import java.nio.file.Path;
import java.util.ArrayList;
import java.util.List;
import java.util.regex.Matcher;
import java.util.regex.Pattern;

/** Each sentence of the document is held to by a boundary test, which names it. */
public final class SentencesTest {
    private static final int PROMISES = 28;
    private static final Pattern NAMED = Pattern.compile(
            "Check\\.sentence\\((\"[^\"]*\"),\\s*((?:\"[^\"]*\"[\\s+]*)+)\\)");
    /** Sentences that ask for nothing. */
    private static final String[] IDLE = {"A workshop of wavelets", "Callers set samples",
        "Ahead of the calls"};

    public static void main(String[] args) throws Exception {
        List<String> named = namedSentences(Path.of("src/test/java"));
        check("What it is", named);
        check("Terms", named);
        for (int promise = 1; promise <= PROMISES; promise++) {
            check("Promise " + promise, named);
        }
        Check.end();
    }

    private static void check(String section, List<String> named) {
        List<String> sentences = sentencesOf(Check.textOf(section));
        Check.same("sentences in " + section, sentences.isEmpty(), false);
        for (String sentence : sentences) {
            if (!isIdle(sentence) && !isNamed(section, sentence, named)) {
                Check.report("no boundary test names: " + section + ": " + sentence);
            }
        }
    }

    private static List<String> sentencesOf(String text) {
        List<String> sentences = new ArrayList<>();
        String[] lines = text.split("\n");
        for (int line = 1; line < lines.length; line++) {
            for (String sentence : lines[line].split("(?<=\\.) +(?=[A-Z`])")) {
                if (sentence.indexOf(' ') > 0 && sentence.split(" ").length > 2) {
                    sentences.add(sentence);
                }
            }
        }
        return sentences;
    }

    private static boolean isIdle(String sentence) {
        for (String idle : IDLE) {
            if (sentence.startsWith(idle)) {
                return true;
            }
        }
        return false;
    }

    private static boolean isNamed(String section, String sentence, List<String> named) {
        for (String name : named) {
            int words = name.indexOf(": ") + 2;
            if (name.startsWith(section + ": ") && (sentence.contains(name.substring(words))
                    || name.substring(words).contains(sentence))) {
                return true;
            }
        }
        return false;
    }

    private static List<String> namedSentences(Path tests) throws Exception {
        List<String> named = new ArrayList<>();
        try (DirectoryStream<Path> files = Files.newDirectoryStream(tests, "Boundary*Test.java")) {
            for (Path file : files) {
                Matcher found = NAMED.matcher(Files.readString(file));
                while (found.find()) {
                    String words = found.group(2).trim().replaceAll("\"\\s*\\+\\s*\"", "");
                    named.add(found.group(1).replace("\"", "") + ": "
                            + words.substring(1, words.length() - 1));
                }
            }
        }
        return named;
    }
}
