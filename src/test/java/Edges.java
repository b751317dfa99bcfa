import java.lang.reflect.InvocationTargetException;
import java.lang.reflect.Method;
import java.util.ArrayList;
import java.util.Comparator;
import java.util.List;
import java.util.function.IntUnaryOperator;

/**
 * What the tests of the document's sentences have in common. Each test is a static method that says
 * its sentence and uses new objects of its own; one test alone is run by its name.
 */
abstract class Edges {
    static final int NONE = -1000000;
    static final int BAD = -1000001;
    static final int STATE = -1000002;
    static final int FULL = -1000003;
    static final int NULL = -1000011;
    static final int PLACE = -1000012;
    static final int KIND = -1000013;
    static final int SIZE = -1000014;
    static final int STORE = -1000015;
    static final int MIN = Integer.MIN_VALUE;
    static final int MAX = Integer.MAX_VALUE;

    static List<Method> testsOf(Class<?> tests) {
        List<Method> found = new ArrayList<>();
        for (Method method : tests.getDeclaredMethods()) {
            if (method.isAnnotationPresent(Says.class)) {
                found.add(method);
            }
        }
        found.sort(Comparator.comparing(Method::getName));
        return found;
    }

    static void run(Class<?> tests, String[] names) throws IllegalAccessException {
        for (Method test : testsOf(tests)) {
            if (names.length == 0 || List.of(names).contains(test.getName())) {
                runOne(test);
            }
        }
        Checks.begin("all");
        Checks.isTrue("some tests were run", Checks.asked() > 0);
        Checks.finish();
    }

    private static void runOne(Method test) throws IllegalAccessException {
        Checks.begin(test.getName());
        int before = Checks.asked();
        try {
            test.setAccessible(true);
            test.invoke(null);
            Checks.isTrue("it asks something", Checks.asked() > before);
        } catch (InvocationTargetException e) {
            e.getCause().printStackTrace(System.out);
            Checks.isTrue("it ends without " + e.getCause(), false);
        }
    }

    static void due(String call, long want, long got) {
        Checks.due(call, want, got);
    }

    /** Each of the values is answered so. */
    static void each(String call, int want, IntUnaryOperator asked, int... values) {
        for (int value : values) {
            due(call + " with " + value, want, asked.applyAsInt(value));
        }
    }

    static TowerBraid fed(TowerBraid x, String text) {
        for (int i = 0; i < text.length(); i++) {
            x.feed(text.charAt(i));
        }
        return x;
    }

    static TowerBraid told(String text) {
        TowerBraid x = fed(new TowerBraid(), text);
        Checks.isTrue(text + " is read", x.tower() >= 0);
        return x;
    }

    static TowerBraid plaited(String text, int set) {
        TowerBraid x = told(text);
        due("plait " + set, Integer.bitCount(set), x.plait(set));
        return x;
    }
}
