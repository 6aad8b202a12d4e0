import java.io.IOException;
import java.lang.reflect.Constructor;
import java.lang.reflect.Executable;
import java.lang.reflect.Field;
import java.lang.reflect.Method;
import java.lang.reflect.Modifier;
import java.nio.file.Files;
import java.nio.file.Path;
import java.util.Set;
import java.util.StringJoiner;
import java.util.TreeSet;
import java.util.regex.Matcher;
import java.util.regex.Pattern;

/** The public face is the document's, and nothing else can be seen from outside (rules 1 and 5 of LANGUAGE.md). */
public final class FaceTest {
    private static final Check CHECK = new Check("FaceTest");
    private static final Path DOCUMENT = Path.of("..", "shared", "DOC.md");
    private static final Pattern LINE = Pattern.compile("^    public (.*);$", Pattern.MULTILINE);

    public static void main(String[] args) throws IOException {
        Class<?> face = IntraPicture.class;
        CHECK.due("public and final", Modifier.isPublic(face.getModifiers()) && Modifier.isFinal(face.getModifiers()), true);
        Set<String> found = new TreeSet<>();
        for (Constructor<?> constructor : face.getDeclaredConstructors()) {
            keepIfSeen(constructor, face.getName(), found);
        }
        for (Method method : face.getDeclaredMethods()) {
            keepIfSeen(method, method.getReturnType().getName() + " " + method.getName(), found);
        }
        Set<String> due = faceOfTheDocument();
        CHECK.due("the document has a constructor and 14 methods", due.size(), 15);
        CHECK.due("the face is that of the document, not " + found, found.equals(due), true);
        for (Field field : face.getDeclaredFields()) {
            CHECK.due(field.getName() + " is private", Modifier.isPrivate(field.getModifiers()), true);
        }
        for (Class<?> inside : face.getDeclaredClasses()) {
            CHECK.due(inside + " is static", Modifier.isStatic(inside.getModifiers()), true);
            CHECK.due(inside + " is not public", Modifier.isPublic(inside.getModifiers()), false);
            staticFieldsAreFinal(inside);
        }
        staticFieldsAreFinal(face);
        privateMethodsHaveOtherNames(face);
        CHECK.end();
    }

    private static void privateMethodsHaveOtherNames(Class<?> face) {
        Set<String> names = new TreeSet<>();
        for (Method method : face.getMethods()) {
            names.add(method.getName());
        }
        for (Method method : face.getDeclaredMethods()) {
            boolean hidden = Modifier.isPrivate(method.getModifiers());
            CHECK.due("a private " + method.getName(), hidden && names.contains(method.getName()), false);
        }
        for (Class<?> inside : face.getDeclaredClasses()) {
            for (Method method : inside.getDeclaredMethods()) {
                CHECK.due(method.getName() + " inside", names.contains(method.getName()), false);
            }
        }
    }

    private static void keepIfSeen(Executable member, String name, Set<String> found) {
        if (!Modifier.isPrivate(member.getModifiers())) {
            CHECK.due(name + " is public", Modifier.isPublic(member.getModifiers()), true);
            CHECK.due(name + " is static", Modifier.isStatic(member.getModifiers()), false);
            CHECK.due(name + " throws", member.getExceptionTypes().length, 0);
            StringJoiner types = new StringJoiner(", ", name + "(", ")");
            for (Class<?> type : member.getParameterTypes()) {
                types.add(type.getName());
            }
            found.add(types.toString());
        }
    }

    /** What the document has under "The public face", without the names of the parameters. */
    private static Set<String> faceOfTheDocument() throws IOException {
        String document = Files.readString(DOCUMENT);
        int from = document.indexOf("## The public face");
        int to = document.indexOf("## Terms");
        CHECK.due("the document has its parts", from >= 0 && to > from, true);
        String text = document.substring(from, to);
        CHECK.due("a final class", text.contains("public final class IntraPicture {"), true);
        Set<String> face = new TreeSet<>();
        for (Matcher line = LINE.matcher(text); line.find();) {
            face.add(line.group(1).replaceAll(" \\w+([,)])", "$1"));
        }
        return face;
    }

    private static void staticFieldsAreFinal(Class<?> owner) {
        for (Field field : owner.getDeclaredFields()) {
            boolean free = Modifier.isStatic(field.getModifiers()) && !Modifier.isFinal(field.getModifiers());
            CHECK.due(owner + "." + field.getName() + " is static and not final", free, false);
        }
    }
}
