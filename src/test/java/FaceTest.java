import java.lang.reflect.Constructor;
import java.lang.reflect.Field;
import java.lang.reflect.Member;
import java.lang.reflect.Method;
import java.lang.reflect.Modifier;
import java.util.Arrays;
import java.util.TreeSet;

/** The public face of the document: all of it, and nothing else. */
final class FaceTest {
    private static final String[] METHODS = {"int put(int)", "void end(int)", "int read()", "int fault()",
        "int sheet(int)", "int start()", "int moves(int)", "boolean terminal()", "int goal(int)", "int play(int)",
        "int sign(int, int, int)", "int explore()", "int defect(int)", "int state(int, int)", "int next(int, int)",
        "int value(int)", "int best(int)"};

    private FaceTest() {
    }

    public static void main(String[] args) {
        Class<RuleSheets> face = RuleSheets.class;
        int kind = face.getModifiers();
        Check.due("public and final", Modifier.isPublic(kind) && Modifier.isFinal(kind) ? 1 : 0, 1);
        TreeSet<String> seen = new TreeSet<>();
        TreeSet<String> names = new TreeSet<>();
        TreeSet<String> hidden = new TreeSet<>();
        for (Method method : face.getDeclaredMethods()) {
            if (isOpen(method)) {
                seen.add(told(method));
                names.add(method.getName());
            } else {
                hidden.add(method.getName());
            }
        }
        Check.due("the methods", seen.toString(), new TreeSet<>(Arrays.asList(METHODS)).toString());
        hidden.retainAll(names);
        Check.due("hidden ones of the same name", hidden.toString(), "[]");
        TreeSet<String> fields = new TreeSet<>();
        for (Field field : face.getDeclaredFields()) {
            if (isOpen(field)) {
                fields.add(Modifier.toString(field.getModifiers()) + " " + field.getType() + " " + field.getName());
            }
        }
        Check.due("the constants", fields.toString(), "[public static final int NONE]");
        Constructor<?>[] all = face.getDeclaredConstructors();
        Check.due("one constructor", all.length, 1);
        Check.due("public, without parameters", Modifier.isPublic(all[0].getModifiers())
                && all[0].getParameterCount() == 0 ? 1 : 0, 1);
        Check.finish("FaceTest");
    }

    private static boolean isOpen(Member member) {
        return !Modifier.isPrivate(member.getModifiers()) && !member.isSynthetic();
    }

    private static String told(Method method) {
        StringBuilder text = new StringBuilder();
        text.append(method.getReturnType()).append(' ').append(method.getName()).append('(');
        for (int i = 0; i < method.getParameterCount(); i++) {
            text.append(i == 0 ? "" : ", ").append(method.getParameterTypes()[i]);
        }
        return text.append(')').toString();
    }
}
