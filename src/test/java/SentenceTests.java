import java.lang.reflect.Method;
import java.nio.file.Files;
import java.nio.file.Path;
import java.util.List;
import java.util.regex.Matcher;
import java.util.regex.Pattern;

/**
 * What the tests of sentences say stands in the document; and each number and each refusal that the
 * document names stands in the words of some test. With an argument, what no test says is printed.
 */
final class SentenceTests {
    private static final Path DOC = Path.of("../shared/DOC.md");
    private static final int PROMISES = 35;
    private static final Pattern EDGE = Pattern.compile(
            "\\d+|\\b(BAD|STATE|FULL|NULL|PLACE|KIND|SIZE|STORE|NONE|none|nothing|nobody|empty|least|most|cut)\\b");
    private static final List<Class<?>> TESTS = List.of(RowEdgeTests.class, TextEdgeTests.class,
            ActEdgeTests.class, ForetoldEdgeTests.class, AskedEdgeTests.class, RefusalEdgeTests.class);

    private SentenceTests() {
    }

    public static void main(String[] args) throws Exception {
        if (Files.exists(DOC)) {
            String doc = Files.readString(DOC).replaceAll("\\s+", " ");
            for (int of = 0; of <= PROMISES; of++) {
                look(of, partOf(doc, of), args.length > 0);
            }
        }
        Checks.finish();
    }

    /** Part 0 is what stands ahead of the promises, without the face. */
    private static String partOf(String doc, int of) {
        if (of == 0) {
            String ahead = doc.substring(doc.indexOf("An object is used"), doc.indexOf("Ahead of the calls"));
            return ahead.replaceAll("```java .*?```", "").replaceAll("========", "");
        }
        int from = doc.indexOf("## Promise " + of + ":");
        int to = doc.indexOf("## ", from + 3);
        String promise = doc.substring(from, to);
        return promise.substring(promise.indexOf("`: ") + 3);
    }

    private static void look(int of, String part, boolean prints) {
        boolean[] said = new boolean[part.length()];
        for (Class<?> tests : TESTS) {
            for (Method test : Edges.testsOf(tests)) {
                Says says = test.getAnnotation(Says.class);
                if (says.of() == of) {
                    int at = part.indexOf(says.value());
                    Checks.isTrue(test.getName() + " says what stands in " + of, at >= 0);
                    for (int i = Math.max(0, at); at >= 0 && i < at + says.value().length(); i++) {
                        said[i] = true;
                    }
                }
            }
        }
        Matcher edge = EDGE.matcher(part);
        while (edge.find()) {
            int from = Math.max(0, edge.start() - 30);
            int to = Math.min(part.length(), edge.end() + 30);
            Checks.isTrue("of " + of + ", a test of: .." + part.substring(from, to) + "..", said[edge.start()]);
        }
        if (prints) {
            printUnsaid(of, part, said);
        }
    }

    private static void printUnsaid(int of, String part, boolean[] said) {
        StringBuilder unsaid = new StringBuilder();
        for (int i = 0; i < said.length; i++) {
            unsaid.append(said[i] ? '_' : part.charAt(i));
        }
        String words = unsaid.toString().replaceAll("_+", " _ ").trim();
        if (words.matches(".*[a-zA-Z].*")) {
            System.out.println("unsaid of " + of + ": " + words);
        }
    }
}
