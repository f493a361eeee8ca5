import java.io.IOException;
import java.nio.file.DirectoryStream;
import java.nio.file.Files;
import java.nio.file.Path;
import java.util.Arrays;
import java.util.regex.Matcher;
import java.util.regex.Pattern;

/**
 * Of the document from "Terms" up to "Not promised" each word stands in the words of a test for a sentence,
 * and each promise has such tests: a sentence that is new, or told otherwise, is seen here.
 */
public final class SentencesTest {
    private static final Path DOCUMENT = Path.of("../shared/DOC.md");
    private static final Path TESTS = Path.of("src/test/java");
    private static final int PROMISES = 42;
    /** Shorter texts of a test are no sentence's words, though the document may have them. */
    private static final int SHORTEST = 8;
    private static final Pattern TEXT = Pattern.compile("\"((?:[^\"\\\\]|\\\\.)*)\"");
    private static final Pattern TEXTS = Pattern.compile(TEXT + "(?:\\s*\\+\\s*" + TEXT + ")*");
    private static final Pattern NAME = Pattern.compile("private static void [a-zA-Z]+([0-9]+)[A-Z]\\w*\\(\\)");
    /** Headings, a call's form and name, the marks of a part: not what a promise says. */
    private static final String NO_SENTENCE = "## Terms|```text|```|==== [0-9]\\.|## Promise [0-9]+: [A-Za-z ]+`[^`]*`:"
            + "|Ahead of the calls [^-]*---- [A-Za-z ]+\\.";

    private static String joined(String texts) {
        StringBuilder s = new StringBuilder();
        Matcher m = TEXT.matcher(texts);
        while (m.find()) {
            s.append(m.group(1));
        }
        return s.toString();
    }

    private static void cover(String document, boolean[] covered, String words) {
        int at = words.length() < SHORTEST ? -1 : document.indexOf(words);
        while (at >= 0) {
            Arrays.fill(covered, at, at + words.length(), true);
            at = document.indexOf(words, at + 1);
        }
    }

    private static int tellRest(String document, boolean[] covered, int to) {
        StringBuilder rest = new StringBuilder();
        for (int i = document.indexOf("## Terms"); i < to; i++) {
            rest.append(covered[i] ? '\n' : document.charAt(i));
        }
        int wrong = 0;
        for (String part : rest.toString().replaceAll(NO_SENTENCE, "\n").split("\n")) {
            if (part.matches(".*[A-Za-z0-9].*")) {
                System.out.println("no test is for: " + part);
                wrong++;
            }
        }
        return wrong;
    }

    public static void main(String[] args) throws IOException {
        String document = Files.readString(DOCUMENT).replaceAll("\\s+", " ");
        boolean[] covered = new boolean[document.length()];
        int[] tests = new int[PROMISES + 1];
        try (DirectoryStream<Path> files = Files.newDirectoryStream(TESTS, "*EdgesTest.java")) {
            for (Path file : files) {
                String source = Files.readString(file);
                Matcher texts = TEXTS.matcher(source);
                while (texts.find()) {
                    cover(document, covered, joined(texts.group()));
                }
                Matcher names = NAME.matcher(source);
                while (names.find()) {
                    tests[Integer.parseInt(names.group(1))]++;
                }
            }
        }
        int wrong = tellRest(document, covered, document.indexOf("## Not promised"));
        for (int promise = 1; promise <= PROMISES; promise++) {
            if (tests[promise] == 0) {
                System.out.println("no test is for promise " + promise);
                wrong++;
            }
        }
        System.out.println(wrong == 0 ? "each sentence has its test" : wrong + " have no test");
        if (wrong != 0) {
            System.exit(1);
        }
    }
}
