import java.lang.reflect.InvocationTargetException;
import java.lang.reflect.Method;
import java.util.ArrayList;
import java.util.Comparator;
import java.util.List;

/** Runs the tests of a class: its methods whose names begin with "promise" and the promise's number. */
final class Checks {
    private static String test = "";
    private static int checks = 0;
    private static int wrong = 0;

    private Checks() {
    }

    static void due(String what, long got, long want) {
        checks++;
        if (got != want) {
            wrong++;
            System.out.println(test + ": " + what + " answered " + got + ", due is " + want);
        }
    }

    static void due(String what, boolean got, boolean want) {
        due(what, got ? 1 : 0, want ? 1 : 0);
    }

    static void dueBytes(String what, byte[] got, byte[] want) {
        due("the length of " + what, got.length, want.length);
        for (int k = 0; k < Math.min(got.length, want.length); k++) {
            due("byte " + k + " of " + what, got[k] & 255, want[k] & 255);
        }
    }

    /** Each promise from the first to the last must have a test, and all of them must pass. */
    static void run(Class<?> tests, int first, int last) {
        List<Method> all = new ArrayList<>();
        for (Method m : tests.getDeclaredMethods()) {
            if (m.getName().matches("promise\\d\\d_\\w+")) all.add(m);
        }
        all.sort(Comparator.comparing(Method::getName));
        for (int promise = first; promise <= last; promise++) {
            String start = String.format("promise%02d_", promise);
            due("a test of promise " + promise, all.stream().anyMatch(m -> m.getName().startsWith(start)), true);
        }
        for (Method m : all) runOne(m);
        System.out.println(all.size() + " tests, " + checks + " checks, " + wrong + " wrong");
        if (wrong != 0) System.exit(1);
    }

    private static void runOne(Method m) {
        test = m.getName();
        int checksBefore = checks;
        try {
            m.invoke(null);
        } catch (InvocationTargetException e) {
            wrong++;
            System.out.println(test + " threw " + e.getCause());
        } catch (IllegalAccessException e) {
            wrong++;
            System.out.println(test + " could not be run");
        }
        if (checks == checksBefore) {
            wrong++;
            System.out.println(test + " looks at nothing");
        }
    }
}
