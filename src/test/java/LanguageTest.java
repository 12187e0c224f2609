import java.io.IOException;
import java.nio.file.Files;
import java.nio.file.Path;
import java.util.List;
import java.util.regex.Matcher;
import java.util.regex.Pattern;

/** What of LANGUAGE.md can be seen in the lines of the program; it runs from the project's root. */
final class LanguageTest {
    private static final String[] NEVER = {"->", "::", "\\bfinally\\b", "\\bsynchronized\\b", "\\bassert\\b",
        "\\bthrow e\\b", "\\bpackage\\b", "\\bprotected\\b", "Exact\\(", "\\bSystem\\.(?!arraycopy)", "\\bThread\\b",
        "\\bRandom\\b", "\\bdouble\\b", "\\bfloat\\b", "\\bvolatile\\b", "\\bextends Exception\\b", "\\.equals\\(",
        "\\bhashCode\\b", "\\btoString\\b", "\\bgetMessage\\b", "while \\(true\\)", "for \\(;;\\)", "\\bObject\\b",
        "\\bMap\\b", "\\bSet\\b", "\\bnull\\b"};
    private static final int LONGEST_METHOD = 60;

    private LanguageTest() {
    }

    public static void main(String[] args) throws IOException {
        List<String> lines = Files.readAllLines(Path.of("src/main/java/RuleSheets.java"));
        String text = withoutComments(String.join("\n", lines));
        for (String form : NEVER) {
            Matcher m = Pattern.compile(form).matcher(text);
            Check.due(form + " in the program", m.find() ? text.substring(m.start(), m.end()) : "", "");
        }
        Matcher imports = Pattern.compile("import ([^;]+);").matcher(text);
        while (imports.find()) {
            Check.due("an import", imports.group(1).matches("java\\.util\\.(Arrays|ArrayList|List)") ? 1 : 0, 1);
        }
        Matcher statics = Pattern.compile("static (?!final)[\\w\\[\\]]+ \\w+ *[;=]").matcher(text);
        Check.due("a static field that isn't final", statics.find() ? 1 : 0, 0);
        Matcher thrown = Pattern.compile("throw (?!new (IllegalState|IllegalArgument|IndexOutOfBounds|"
                + "UnsupportedOperation)Exception\\()").matcher(text);
        Check.due("another exception", thrown.find() ? 1 : 0, 0);
        int classes = text.split("\\bclass \\w+ \\{", -1).length - 1;
        Check.due("at most twelve classes, but there are " + classes, classes <= 12 ? 1 : 0, 1);
        checkMethods(lines);
        Check.finish("LanguageTest");
    }

    private static String withoutComments(String text) {
        return text.replaceAll("(?s)/\\*.*?\\*/", "").replaceAll("//[^\n]*", "").replaceAll("\"[^\"\n]*\"", "\"\"");
    }

    /** Methods stay short, and take few parameters: their lines are those up to a like indent. */
    private static void checkMethods(List<String> lines) {
        Pattern head = Pattern.compile("^( {4}| {8})(?:[\\w\\[\\]]+ )+(\\w+)\\(([^)]*)\\).*");
        for (int i = 0; i < lines.size(); i++) {
            Matcher m = head.matcher(lines.get(i));
            if (!m.matches() || lines.get(i).contains(" new ") || lines.get(i).endsWith(";")) {
                continue;
            }
            int end = i;
            while (!lines.get(end).equals(m.group(1) + "}")) {
                end++;
            }
            Check.due(m.group(2) + " is short", end - i < LONGEST_METHOD ? 1 : 0, 1);
            Check.due(m.group(2) + " takes few", m.group(3).split(",").length <= 7 ? 1 : 0, 1);
        }
    }
}
