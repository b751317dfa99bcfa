import java.lang.reflect.Method;
import java.nio.file.Files;
import java.nio.file.Path;
import java.util.regex.Matcher;
import java.util.regex.Pattern;

/** What README.md tells of answers is so: its text is fed, its calls are made, one behind another. */
final class ReadmeTests {
    private static final Pattern TEXT = Pattern.compile("\"([^\"]*)\"\\.toCharArray");
    private static final Pattern CALL = Pattern.compile("(?m)^braid\\.(\\w+)\\(([-0-9, ]*)\\); *// (-?\\d+)");

    private ReadmeTests() {
    }

    public static void main(String[] args) throws Exception {
        String readme = Files.readString(Path.of("README.md"));
        TowerBraid braid = new TowerBraid();
        Matcher text = TEXT.matcher(readme);
        Checks.isTrue("a text is told", text.find());
        for (char letter : text.group(1).toCharArray()) {
            braid.feed(letter);
        }
        int calls = 0;
        for (Matcher call = CALL.matcher(readme); call.find(); calls++) {
            int[] numbers = Pattern.compile("-?\\d+").matcher(call.group(2)).results()
                    .mapToInt(number -> Integer.parseInt(number.group())).toArray();
            String told = call.group(1) + "(" + call.group(2) + ")";
            Checks.due(told, Long.parseLong(call.group(3)), answer(braid, call.group(1), numbers));
        }
        Checks.isTrue("calls are told", calls > 0);
        namesEachCall(readme);
        Checks.finish();
    }

    private static int answer(TowerBraid braid, String name, int[] numbers) throws ReflectiveOperationException {
        Class<?>[] types = new Class<?>[numbers.length];
        Object[] given = new Object[numbers.length];
        for (int i = 0; i < numbers.length; i++) {
            types[i] = int.class;
            given[i] = numbers[i];
        }
        return (int) TowerBraid.class.getMethod(name, types).invoke(braid, given);
    }

    private static void namesEachCall(String readme) {
        for (Method method : TowerBraid.class.getMethods()) {
            if (method.getDeclaringClass() == TowerBraid.class) {
                Checks.isTrue("it names " + method.getName(), readme.contains("`" + method.getName() + "`"));
            }
        }
    }
}
