import java.lang.reflect.Constructor;
import java.lang.reflect.Field;
import java.lang.reflect.Method;
import java.lang.reflect.Modifier;
import java.nio.file.Files;
import java.nio.file.Path;
import java.util.Set;
import java.util.TreeSet;

/** The face of the class is the document's, and its text keeps to what LANGUAGE.md rules out by word. */
final class FaceTests {
    private static final String[] METHODS = {
        "row 3", "set 3", "copy 5", "drop 1", "feed 1", "tower 0", "fault 0", "plait 1", "climb 1", "day 0",
        "cut 1", "peg 1", "undo 0", "strand 2", "climber 2", "due 1", "borne 2", "plan 2", "never 0",
        "needed 1", "strongest 1", "cutMost 0", "comes 2", "climbed 1", "climbers 3", "storm 3", "image 1",
        "restore 1", "kind 1", "as 2", "ask 2", "trace 1", "count 1", "status 0",
    };
    private static final String[] FORBIDDEN = {
        "\\bthrow\\b", "\\bthrows\\b", "\\btry\\b", "\\bcatch\\b", "\\bsynchronized\\b", "\\bassert\\b",
        "\\bpackage\\b", "::", "\\bhashCode\\b", "\\b\\w+Exact\\b", "\\bnanoTime\\b", "\\bcurrentTimeMillis\\b",
        "\\brandom\\b", "\\bprotected\\b", "\\bThread\\b", "[^\\x00-\\x7f]",
    };

    private static final int SOME_TWENTY = 25;
    private static final int SOME_TWELVE = 16;

    private FaceTests() {
    }

    public static void main(String[] args) throws Exception {
        methodsAreTheDocuments();
        constantsAreTheDocuments();
        constructorIsPublic();
        classesInsideAreStatic();
        privateMethodsBearNamesOfTheirOwn();
        nothingForbiddenStandsInTheText();
        Checks.finish();
    }

    private static void methodsAreTheDocuments() {
        Set<String> told = new TreeSet<>();
        for (String method : METHODS) {
            told.add(method);
        }
        for (Method method : TowerBraid.class.getDeclaredMethods()) {
            if (Modifier.isPrivate(method.getModifiers()) || method.isSynthetic()) {
                continue;
            }
            String name = method.getName() + " " + method.getParameterCount();
            Checks.isTrue(name + " is of the face", told.remove(name));
            Checks.isTrue(name + " is public alone", method.getModifiers() == Modifier.PUBLIC);
            Checks.isTrue(name + " answers an int", method.getReturnType() == int.class);
            for (Class<?> type : method.getParameterTypes()) {
                Checks.isTrue(name + " takes ints", type == int.class);
            }
        }
        Checks.isTrue("missing: " + told, told.isEmpty());
    }

    private static void constantsAreTheDocuments() {
        Set<String> told = new TreeSet<>(Set.of("NONE", "BAD", "STATE", "FULL"));
        for (Field field : TowerBraid.class.getDeclaredFields()) {
            if (!Modifier.isPrivate(field.getModifiers()) && !field.isSynthetic()) {
                Checks.isTrue(field.getName() + " is of the face", told.remove(field.getName()));
            }
            if (Modifier.isStatic(field.getModifiers())) {
                Checks.isTrue(field.getName() + " is final", Modifier.isFinal(field.getModifiers()));
            }
        }
        Checks.isTrue("missing: " + told, told.isEmpty());
        Checks.due("NONE", -1000000, TowerBraid.NONE);
        Checks.due("BAD", -1000001, TowerBraid.BAD);
        Checks.due("STATE", -1000002, TowerBraid.STATE);
        Checks.due("FULL", -1000003, TowerBraid.FULL);
    }

    private static void constructorIsPublic() {
        Checks.isTrue("the class is public and final",
                TowerBraid.class.getModifiers() == (Modifier.PUBLIC | Modifier.FINAL));
        Constructor<?>[] constructors = TowerBraid.class.getDeclaredConstructors();
        Checks.due("constructors", 1, constructors.length);
        Checks.due("what it takes", 0, constructors[0].getParameterCount());
        Checks.isTrue("it is public", Modifier.isPublic(constructors[0].getModifiers()));
    }

    private static void classesInsideAreStatic() {
        int classes = 1;
        for (Class<?> inside : TowerBraid.class.getDeclaredClasses()) {
            classes++;
            Checks.isTrue(inside + " is static", Modifier.isStatic(inside.getModifiers()));
            Checks.isTrue(inside + " is not public", !Modifier.isPublic(inside.getModifiers()));
            Checks.isTrue(inside + " has some twenty fields at most", instanceFields(inside) <= SOME_TWENTY);
        }
        Checks.isTrue("some twelve classes at most", classes <= SOME_TWELVE);
        Checks.isTrue("some twenty fields at most", instanceFields(TowerBraid.class) <= SOME_TWENTY);
    }

    private static int instanceFields(Class<?> of) {
        int fields = 0;
        for (Field field : of.getDeclaredFields()) {
            fields += Modifier.isStatic(field.getModifiers()) ? 0 : 1;
        }
        return fields;
    }

    private static void privateMethodsBearNamesOfTheirOwn() {
        Set<String> faces = new TreeSet<>();
        for (String method : METHODS) {
            faces.add(method.substring(0, method.indexOf(' ')));
        }
        for (Method method : TowerBraid.class.getDeclaredMethods()) {
            if (Modifier.isPrivate(method.getModifiers())) {
                Checks.isTrue(method + " has a name of its own", !faces.contains(method.getName()));
            }
        }
    }

    private static void nothingForbiddenStandsInTheText() throws Exception {
        String text = Files.readString(Path.of("src/main/java/TowerBraid.java"));
        String code = text.replaceAll("(?s)/\\*.*?\\*/", "").replaceAll("//[^\n]*", "");
        for (String word : FORBIDDEN) {
            Checks.isTrue("nowhere " + word, code.replaceAll(word, "").equals(code));
        }
    }
}
