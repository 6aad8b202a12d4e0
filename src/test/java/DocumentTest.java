import java.io.File;
import java.io.IOException;
import java.lang.reflect.Method;
import java.nio.file.Files;
import java.nio.file.Path;
import java.util.Arrays;

/**
 * The tests name the words of the document that they stand for: those words stand in it, and there are no others under
 * "What it is", "Terms" and the promises that no test stands for.
 */
public final class DocumentTest {
    private static final Check CHECK = new Check("DocumentTest");
    private static final Path DOCUMENT = Path.of("..", "shared", "DOC.md");
    private static final File TESTS = new File("src/test/java");

    public static void main(String[] args) throws IOException, ClassNotFoundException {
        String document = words(Files.readString(DOCUMENT));
        boolean[] tested = new boolean[document.length()];
        String[] files = TESTS.list((directory, name) -> name.endsWith("Test.java"));
        Arrays.sort(files);
        for (String file : files) {
            markAll(Class.forName(file.substring(0, file.length() - ".java".length())), document, tested);
        }
        // The face between the two parts is looked at by FaceTest.
        allTested(document, tested, "Decodes still pictures", "public final class IntraPicture {");
        allTested(document, tested, "UNITS. The bytes", "How the state is held");
        CHECK.end();
    }

    /** The document without its headings and fences, on one line. */
    private static String words(String text) {
        StringBuilder words = new StringBuilder();
        for (String line : text.split("\\n")) {
            if (!line.startsWith("#") && !line.startsWith("```")) {
                words.append(line).append(' ');
            }
        }
        return words.toString().replaceAll("\\s+", " ");
    }

    private static void markAll(Class<?> tests, String document, boolean[] tested) {
        for (Method test : Check.testsOf(tests)) {
            for (String quote : test.getAnnotation(Says.class).value()) {
                int at = document.indexOf(quote);
                CHECK.due(tests.getName() + "." + test.getName() + " stands for words of the document: " + quote, at >= 0, true);
                // Promises may use the same words: all of them are meant.
                while (at >= 0) {
                    Arrays.fill(tested, at, at + quote.length(), true);
                    at = document.indexOf(quote, at + 1);
                }
            }
        }
    }

    private static void allTested(String document, boolean[] tested, String first, String behind) {
        int from = document.indexOf(first);
        int to = document.indexOf(behind);
        CHECK.due("the document has a part from \"" + first + "\" to \"" + behind + "\"", from >= 0 && to > from, true);
        String untested = untested(document, tested, Math.max(from, 0), to);
        CHECK.due("words that no test stands for: " + untested, untested.length(), 0);
    }

    private static String untested(String document, boolean[] tested, int from, int to) {
        StringBuilder left = new StringBuilder();
        for (int i = from; i < to; i++) {
            if (!tested[i] && (document.charAt(i) != ' ' || !tested[i - 1])) {
                left.append(document.charAt(i));
            }
        }
        return left.toString();
    }
}
