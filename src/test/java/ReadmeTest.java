import java.io.IOException;
import java.lang.reflect.InvocationTargetException;
import java.lang.reflect.Method;
import java.nio.file.Files;
import java.nio.file.Path;
import java.util.List;
import java.util.regex.Matcher;
import java.util.regex.Pattern;

/**
 * The example of README.md answers what stands behind its calls. It runs from the project's root:
 * the text of the sheet, the calls and their answers are taken out of README.md itself.
 */
final class ReadmeTest {
    private static final Pattern LITERAL = Pattern.compile("\"([^\"]*)\"");
    /** A call whose answer stands behind it: a number, true, false, or a sign in quotes. */
    private static final Pattern CALL = Pattern.compile("game\\.(\\w+)\\(([-\\d, ]*)\\);\\s*// ('.'|[-\\w]+)");

    private ReadmeTest() {
    }

    public static void main(String[] args) throws IOException, ReflectiveOperationException {
        List<String> lines = Files.readAllLines(Path.of("README.md"));
        String readme = String.join("\n", lines);
        String example = readme.substring(readme.indexOf("```java"), readme.indexOf("```", readme.indexOf("```java") + 3));
        String told = example.substring(example.indexOf("String text ="));
        told = told.substring(0, told.indexOf(";\n"));
        StringBuilder text = new StringBuilder();
        for (Matcher m = LITERAL.matcher(told); m.find();) {
            text.append(m.group(1));
        }
        Game game = new Game();
        game.append(text.toString());
        int calls = 0;
        for (Matcher m = CALL.matcher(example); m.find();) {
            String want = m.group(3);
            Check.due("README: " + m.group(1) + "(" + m.group(2) + ")", call(game.it, m.group(1), m.group(2)),
                    want.charAt(0) == '\'' ? Integer.toString(want.charAt(1)) : want);
            calls++;
        }
        Check.due("calls of the example with an answer, more than ten", calls > 10 ? 1 : 0, 1);
        for (Method method : RuleSheets.class.getDeclaredMethods()) {
            if (java.lang.reflect.Modifier.isPublic(method.getModifiers())) {
                Check.due("README tells of " + method.getName(), readme.contains("`" + method.getName()) ? 1 : 0, 1);
            }
        }
        try (var tests = Files.list(Path.of("src/test/java"))) {
            tests.map(file -> file.getFileName().toString().replace(".java", "")).filter(name -> name.endsWith("Test"))
                    .forEach(name -> Check.due("README tells of " + name, readme.contains("`" + name + "`") ? 1 : 0, 1));
        }
        Check.finish("ReadmeTest");
    }

    private static String call(RuleSheets game, String name, String numbers) throws ReflectiveOperationException {
        String[] parts = numbers.isBlank() ? new String[0] : numbers.split(", ");
        Class<?>[] kinds = new Class<?>[parts.length];
        Object[] values = new Object[parts.length];
        for (int i = 0; i < parts.length; i++) {
            kinds[i] = int.class;
            values[i] = Integer.parseInt(parts[i]);
        }
        try {
            return String.valueOf(RuleSheets.class.getMethod(name, kinds).invoke(game, values));
        } catch (InvocationTargetException e) {
            return e.getCause().getClass().getSimpleName();
        }
    }
}
