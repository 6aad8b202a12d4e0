import java.lang.reflect.Constructor;
import java.lang.reflect.Field;
import java.lang.reflect.Method;
import java.lang.reflect.Modifier;
import java.util.Arrays;
import java.util.Set;
import java.util.TreeSet;

/** The public face is the document's, and nothing else can be seen from outside (rules 1 and 5 of LANGUAGE.md). */
public final class FaceTest {
    private static final Check CHECK = new Check("FaceTest");
    private static final Set<String> METHODS = new TreeSet<>(Arrays.asList(
        "boolean feed[long, int]", "void clear[]", "int units[]", "int payload[int, int]", "int decode[]",
        "int parameter[int]", "int sample[int, int]", "int plain[int, int]", "int predicted[int, int]",
        "int level[int, int]", "int mode[int, int]", "int side[int, int]", "int chance[int]", "int took[int]"));

    public static void main(String[] args) {
        Class<?> face = IntraPicture.class;
        CHECK.due("public and final", Modifier.isPublic(face.getModifiers()) && Modifier.isFinal(face.getModifiers()), true);
        Constructor<?>[] constructors = face.getDeclaredConstructors();
        CHECK.due("one constructor", constructors.length, 1);
        CHECK.due("without parameters", constructors[0].getParameterCount(), 0);
        CHECK.due("public", Modifier.isPublic(constructors[0].getModifiers()), true);
        Set<String> found = new TreeSet<>();
        for (Method method : face.getDeclaredMethods()) {
            if (!Modifier.isPrivate(method.getModifiers())) {
                CHECK.due(method.getName() + " is public", Modifier.isPublic(method.getModifiers()), true);
                found.add(signature(method));
            }
        }
        CHECK.due("the methods are those of the document, not " + found, found.equals(METHODS), true);
        for (Field field : face.getDeclaredFields()) {
            CHECK.due(field.getName() + " is private", Modifier.isPrivate(field.getModifiers()), true);
        }
        for (Class<?> inside : face.getDeclaredClasses()) {
            CHECK.due(inside + " is static", Modifier.isStatic(inside.getModifiers()), true);
            CHECK.due(inside + " is not public", Modifier.isPublic(inside.getModifiers()), false);
            staticFieldsAreFinal(inside);
        }
        staticFieldsAreFinal(face);
        privateMethodsHaveOtherNames(face);
        CHECK.end();
    }

    private static void privateMethodsHaveOtherNames(Class<?> face) {
        Set<String> names = new TreeSet<>();
        for (Method method : face.getMethods()) {
            names.add(method.getName());
        }
        for (Method method : face.getDeclaredMethods()) {
            boolean hidden = Modifier.isPrivate(method.getModifiers());
            CHECK.due("a private " + method.getName(), hidden && names.contains(method.getName()), false);
        }
        for (Class<?> inside : face.getDeclaredClasses()) {
            for (Method method : inside.getDeclaredMethods()) {
                CHECK.due(method.getName() + " inside", names.contains(method.getName()), false);
            }
        }
    }

    private static String signature(Method method) {
        StringBuilder types = new StringBuilder();
        for (Class<?> type : method.getParameterTypes()) {
            types.append(types.length() == 0 ? "" : ", ").append(type.getName());
        }
        return method.getReturnType().getName() + " " + method.getName() + "[" + types + "]";
    }

    private static void staticFieldsAreFinal(Class<?> owner) {
        for (Field field : owner.getDeclaredFields()) {
            boolean free = Modifier.isStatic(field.getModifiers()) && !Modifier.isFinal(field.getModifiers());
            CHECK.due(owner + "." + field.getName() + " is static and not final", free, false);
        }
    }
}
