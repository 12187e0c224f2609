import java.io.IOException;
import java.lang.reflect.Field;
import java.lang.reflect.Method;
import java.lang.reflect.Modifier;
import java.nio.file.Files;
import java.nio.file.Path;
import java.util.ArrayList;
import java.util.List;
import java.util.Set;
import java.util.TreeSet;
import java.util.regex.Matcher;
import java.util.regex.Pattern;

/** What of LANGUAGE.md can be seen in the lines of the program; it runs from the project's root. */
final class LanguageTest {
    private static final String[] NEVER = {"->", "::", "\\bfinally\\b", "\\bsynchronized\\b", "\\bassert\\b",
        "\\bthrow e\\b", "\\bpackage\\b", "\\bprotected\\b", "Exact\\(", "\\bSystem\\.(?!arraycopy)", "\\bThread\\b",
        "\\bRandom\\b", "\\bdouble\\b", "\\bfloat\\b", "\\bvolatile\\b", "\\bextends Exception\\b", "\\.equals\\(",
        "\\bhashCode\\b", "\\btoString\\b", "\\bgetMessage\\b", "while \\(true\\)", "for \\(;;\\)", "\\bObject\\b",
        "\\bMap\\b", "\\bSet\\b", "\\bnull\\b"};
    private static final int LONGEST_METHOD = 60;
    private static final int MOST_FIELDS = 20;
    /** What a static field may be, all of them final (rule 5). */
    private static final Set<Class<?>> CONSTANTS = Set.of(int.class, long.class, boolean.class, char.class,
            String.class, int[].class, long[].class, char[].class, byte[].class);

    private LanguageTest() {
    }

    public static void main(String[] args) throws IOException {
        List<String> lines = Files.readAllLines(Path.of("src/main/java/RuleSheets.java"));
        String text = withoutComments(String.join("\n", lines));
        for (String form : NEVER) {
            Matcher m = Pattern.compile(form).matcher(text);
            Check.due(form + " in the program", m.find() ? text.substring(m.start(), m.end()) : "", "");
        }
        Matcher imports = Pattern.compile("import ([^;]+);").matcher(text);
        while (imports.find()) {
            Check.due("an import", imports.group(1).matches("java\\.util\\.(Arrays|ArrayList|List)") ? 1 : 0, 1);
        }
        Matcher statics = Pattern.compile("static (?!final)[\\w\\[\\]]+ \\w+ *[;=]").matcher(text);
        Check.due("a static field that isn't final", statics.find() ? 1 : 0, 0);
        Matcher thrown = Pattern.compile("throw (?!new (IllegalState|IllegalArgument|IndexOutOfBounds|"
                + "UnsupportedOperation)Exception\\()").matcher(text);
        Check.due("another exception", thrown.find() ? 1 : 0, 0);
        int classes = text.split("\\bclass \\w+ \\{", -1).length - 1;
        Check.due("at most twelve classes, but there are " + classes, classes <= 12 ? 1 : 0, 1);
        checkMethods(lines);
        checkClasses();
        Check.finish("LanguageTest");
    }

    /** What the classes themselves show of the rules 1, 2, 5 and 11. */
    private static void checkClasses() {
        List<Class<?>> all = new ArrayList<>(List.of(RuleSheets.class.getDeclaredClasses()));
        for (Class<?> inner : all) {
            int kind = inner.getModifiers();
            Check.due(inner + " is static, and private or package-visible",
                    Modifier.isStatic(kind) && !Modifier.isPublic(kind) && !Modifier.isProtected(kind) ? 1 : 0, 1);
            Check.due("classes inside " + inner, inner.getDeclaredClasses().length, 0);
        }
        all.add(RuleSheets.class);
        Set<String> face = new TreeSet<>();
        for (Method method : RuleSheets.class.getDeclaredMethods()) {
            if (Modifier.isPublic(method.getModifiers())) {
                face.add(method.getName());
            }
        }
        for (Class<?> one : all) {
            for (Method method : one.getDeclaredMethods()) {
                boolean hidden = Modifier.isPrivate(method.getModifiers());
                Check.due(method + " bears a name of the face", hidden && face.contains(method.getName()) ? 1 : 0, 0);
            }
            checkFields(one);
        }
    }

    private static void checkFields(Class<?> one) {
        int fields = 0;
        for (Field field : one.getDeclaredFields()) {
            if (!Modifier.isStatic(field.getModifiers())) {
                fields++;
            } else {
                Check.due(field + " is a constant", Modifier.isFinal(field.getModifiers())
                        && CONSTANTS.contains(field.getType()) ? 1 : 0, 1);
            }
        }
        Check.due("so many fields has " + one + ": " + fields, fields <= MOST_FIELDS ? 1 : 0, 1);
    }

    private static String withoutComments(String text) {
        return text.replaceAll("(?s)/\\*.*?\\*/", "").replaceAll("//[^\n]*", "").replaceAll("\"[^\"\n]*\"", "\"\"");
    }

    /** Methods stay short, and take few parameters: their lines are those up to a like indent. */
    private static void checkMethods(List<String> lines) {
        Pattern head = Pattern.compile("^( {4}| {8})(?:[\\w\\[\\]]+ )+(\\w+)\\(([^)]*)\\).*");
        for (int i = 0; i < lines.size(); i++) {
            Matcher m = head.matcher(lines.get(i));
            if (!m.matches() || lines.get(i).contains(" new ") || lines.get(i).endsWith(";")) {
                continue;
            }
            int end = i;
            while (!lines.get(end).equals(m.group(1) + "}")) {
                end++;
            }
            Check.due(m.group(2) + " is short", end - i < LONGEST_METHOD ? 1 : 0, 1);
            Check.due(m.group(2) + " takes few", m.group(3).split(",").length <= 7 ? 1 : 0, 1);
        }
    }
}
