import java.io.File;
import java.io.IOException;
import java.lang.reflect.Method;
import java.lang.reflect.Modifier;
import java.net.URL;
import java.net.URLClassLoader;
import java.nio.file.Files;
import java.nio.file.Path;
import java.util.regex.Matcher;
import java.util.regex.Pattern;
import javax.tools.ToolProvider;

/** What README.md says on using the class and on its tests is so. */
public final class ReadmeTest {
    private static final Check CHECK = new Check("ReadmeTest");
    private static final Path README = Path.of("README.md");
    private static final File TESTS = new File("src/test/java");

    public static void main(String[] args) throws IOException, ReflectiveOperationException {
        String readme = Files.readString(README);
        theExampleAnswersAsItSays(readme);
        everyCallIsNamed(readme);
        everyTestIsNamed(readme);
        CHECK.due("it says how to run the tests", readme.contains("`.ci/run`"), true);
        CHECK.end();
    }

    private static void theExampleAnswersAsItSays(String readme) throws IOException, ReflectiveOperationException {
        Matcher block = Pattern.compile("```java\n(.*?)```", Pattern.DOTALL).matcher(readme);
        CHECK.due("there is an example", block.find(), true);
        String example = block.group(1);
        int[] answers = answersOf(example);
        CHECK.due("leaves", answers[0], numberBehind("int leaves", example));
        CHECK.due("grey", answers[1], numberBehind("int grey", example));
    }

    /** The first number in the comment of the line that begins so. */
    private static int numberBehind(String beginning, String example) {
        Matcher comment = Pattern.compile("^" + beginning + ".*// (-?\\d+);", Pattern.MULTILINE).matcher(example);
        CHECK.due(beginning + " has a comment with its number", comment.find(), true);
        return Integer.parseInt(comment.group(1));
    }

    private static int[] answersOf(String example) throws IOException, ReflectiveOperationException {
        Path directory = Files.createTempDirectory("readme");
        Path source = directory.resolve("Example.java");
        Path compiled = directory.resolve("Example.class");
        try {
            Files.writeString(source, "public class Example { public static int[] answers() {\n" + example
                + "return new int[] {leaves, grey}; } }\n");
            int failed = ToolProvider.getSystemJavaCompiler().run(null, null, null, "-d", directory.toString(),
                "-cp", System.getProperty("java.class.path"), source.toString());
            CHECK.due("the example compiles", failed, 0);
            try (URLClassLoader loader = new URLClassLoader(new URL[] {directory.toUri().toURL()})) {
                return (int[]) loader.loadClass("Example").getMethod("answers").invoke(null);
            }
        } finally {
            Files.deleteIfExists(compiled);
            Files.deleteIfExists(source);
            Files.deleteIfExists(directory);
        }
    }

    private static void everyCallIsNamed(String readme) {
        for (Method method : IntraPicture.class.getDeclaredMethods()) {
            if (Modifier.isPublic(method.getModifiers())) {
                CHECK.due(method.getName() + " is named", readme.contains("`" + method.getName() + "("), true);
            }
        }
    }

    private static void everyTestIsNamed(String readme) {
        String[] files = TESTS.list((directory, name) -> name.endsWith(".java"));
        CHECK.due("there are tests", files != null && files.length > 0, true);
        for (String file : files) {
            String name = file.substring(0, file.length() - ".java".length());
            CHECK.due(name + " is named", readme.contains("`" + name + "`"), true);
        }
    }
}
