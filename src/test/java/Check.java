import java.lang.reflect.InvocationTargetException;
import java.lang.reflect.Method;
import java.util.ArrayList;
import java.util.Comparator;
import java.util.List;

/** Counts the answers of one test class that are not as due, and ends it with the right exit code. */
final class Check {
    private final String test;
    private String part = "";
    private int parts = 0;
    private int asked = 0;
    private int wrong = 0;

    Check(String test) {
        this.test = test;
    }

    void due(String call, long got, long want) {
        asked++;
        if (got != want) {
            wrong++;
            System.out.println(test + part + ": " + call + " answered " + got + ", due is " + want);
        }
    }

    void due(String call, boolean got, boolean want) {
        due(call, got ? 1 : 0, want ? 1 : 0);
    }

    /** The tests of a class: its methods that say which words of the document they stand for. */
    static List<Method> testsOf(Class<?> tests) {
        List<Method> found = new ArrayList<>();
        for (Method method : tests.getDeclaredMethods()) {
            if (method.isAnnotationPresent(Says.class)) {
                found.add(method);
            }
        }
        found.sort(Comparator.comparing(Method::getName));
        return found;
    }

    void runAll(Class<?> tests) {
        for (Method method : testsOf(tests)) {
            run(method);
        }
        due("there are tests in " + tests.getName(), parts > 0, true);
    }

    private void run(Method method) {
        int askedBefore = asked;
        int wrongBefore = wrong;
        part = "." + method.getName();
        parts++;
        try {
            method.invoke(null);
        } catch (InvocationTargetException e) {
            wrong++;
            System.out.println(test + part + ": threw " + e.getCause());
        } catch (IllegalAccessException e) {
            wrong++;
            System.out.println(test + part + ": can't be called");
        }
        due("something is asked", asked > askedBefore, true);
        if (wrong != wrongBefore) {
            for (String words : method.getAnnotation(Says.class).value()) {
                System.out.println(test + part + " stands for: " + words);
            }
        }
        part = "";
    }

    void end() {
        System.out.println(test + ": " + (parts > 0 ? parts + " tests, " : "") + asked + " answers, " + wrong + " not as due");
        if (wrong != 0) {
            System.exit(1);
        }
    }
}
