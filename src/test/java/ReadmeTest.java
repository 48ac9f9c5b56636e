import java.io.File;
import java.lang.reflect.Field;
import java.lang.reflect.Method;
import java.lang.reflect.Modifier;
import java.nio.file.Files;
import java.nio.file.Path;
import java.util.Arrays;
import java.util.regex.Matcher;
import java.util.regex.Pattern;

/** README.md: each call of its examples answers what stands behind it, and it names all there is to use and to run. */
public final class ReadmeTest {
    private static final String MADE = "MonitorDesk desk = new MonitorDesk();";
    private static final Pattern BLOCK = Pattern.compile("(?s)```java\n(.*?)```");
    private static final Pattern CALL = Pattern.compile("desk\\.(\\w+)\\(([-0-9, ]*)\\);\\s+// (-?\\d+): .+");

    private static int calls = 0;

    public static void main(String[] args) throws Exception {
        String text = Files.readString(Path.of("README.md"));
        Matcher blocks = BLOCK.matcher(text);
        int examples = 0;
        while (blocks.find()) {
            example(blocks.group(1).split("\n"));
            examples++;
        }
        Due.is("examples", examples, 2);
        Due.is("their calls", calls, 32);
        namesThePublicFace(text);
        namesEveryTest(text);
        Due.end();
    }

    private static void example(String[] lines) throws Exception {
        Due.is("the first line", lines[0], MADE);
        MonitorDesk desk = new MonitorDesk();
        for (int i = 1; i < lines.length; i++) {
            Matcher call = CALL.matcher(lines[i]);
            boolean fits = call.matches();
            Due.is("a call with its answer: " + lines[i], fits, true);
            if (fits) {
                Due.is(lines[i], answer(desk, call.group(1), call.group(2)), Integer.valueOf(call.group(3)));
                calls++;
            }
        }
    }

    private static Object answer(MonitorDesk desk, String name, String listed) throws Exception {
        Object[] numbers = Arrays.stream(listed.split(", *")).filter(n -> !n.isEmpty()).map(Integer::valueOf).toArray();
        Class<?>[] types = new Class<?>[numbers.length];
        Arrays.fill(types, int.class);
        return MonitorDesk.class.getMethod(name, types).invoke(desk, numbers);
    }

    private static void namesThePublicFace(String text) throws Exception {
        for (Method method : MonitorDesk.class.getDeclaredMethods()) {
            if (Modifier.isPublic(method.getModifiers())) {
                Due.is("a row for " + method.getName(), text.contains("\n| `" + method.getName() + "("), true);
            }
        }
        for (Field field : MonitorDesk.class.getFields()) {
            String row = "\n| `" + field.getName() + "` | " + field.getInt(null) + " |";
            Due.is("a row for " + field.getName(), text.contains(row), true);
        }
        for (int operation = 0; operation <= 15; operation++) {
            Due.is("a row for operation " + operation, text.contains("\n| " + operation + " | "), true);
        }
    }

    private static void namesEveryTest(String text) {
        String[] tests = new File("src/test/java").list((folder, file) -> file.endsWith("Test.java"));
        Due.is("tests there", tests.length > 0, true);
        for (String test : tests) {
            String name = test.replace(".java", "");
            Due.is("a row for " + name, text.contains("\n| " + name + " | "), true);
        }
    }
}
