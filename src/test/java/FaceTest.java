import java.lang.reflect.Constructor;
import java.lang.reflect.Field;
import java.lang.reflect.Member;
import java.lang.reflect.Method;
import java.lang.reflect.Modifier;
import java.util.Arrays;
import java.util.TreeSet;

/** The public face of the document: all of it, and nothing else. */
final class FaceTest {
    private static final String STATE = "IllegalStateException";
    private static final String ARGUMENT = "IllegalArgumentException";
    private static final String INDEX = "IndexOutOfBoundsException";
    private static final String GREAT = "UnsupportedOperationException";
    /** The methods as the document writes them, with what they throw, in its order. */
    private static final String[] METHODS = {"int put(int) " + ARGUMENT + " " + GREAT, "void end(int) " + ARGUMENT,
        "int read()", "int fault()", "int sheet(int) " + STATE + " " + ARGUMENT, "int start() " + STATE + " " + GREAT,
        "int moves(int) " + STATE + " " + INDEX + " " + GREAT, "boolean terminal() " + STATE + " " + GREAT,
        "int goal(int) " + STATE + " " + INDEX + " " + GREAT, "int play(int) " + STATE + " " + INDEX + " " + GREAT,
        "int sign(int, int, int) " + STATE + " " + ARGUMENT + " " + INDEX + " " + GREAT,
        "int explore() " + STATE + " " + GREAT, "int defect(int) " + STATE + " " + ARGUMENT,
        "int state(int, int) " + STATE + " " + INDEX + " " + ARGUMENT, "int next(int, int) " + STATE + " " + INDEX,
        "int value(int) " + STATE + " " + INDEX, "int best(int) " + STATE + " " + INDEX};

    private FaceTest() {
    }

    public static void main(String[] args) {
        Class<RuleSheets> face = RuleSheets.class;
        int kind = face.getModifiers();
        Check.due("public and final", Modifier.isPublic(kind) && Modifier.isFinal(kind) ? 1 : 0, 1);
        TreeSet<String> seen = new TreeSet<>();
        TreeSet<String> names = new TreeSet<>();
        TreeSet<String> hidden = new TreeSet<>();
        for (Method method : face.getDeclaredMethods()) {
            if (isOpen(method)) {
                seen.add(told(method));
                names.add(method.getName());
            } else {
                hidden.add(method.getName());
            }
        }
        Check.due("the methods", seen.toString(), new TreeSet<>(Arrays.asList(METHODS)).toString());
        hidden.retainAll(names);
        Check.due("hidden ones of the same name", hidden.toString(), "[]");
        TreeSet<String> fields = new TreeSet<>();
        for (Field field : face.getDeclaredFields()) {
            if (isOpen(field)) {
                fields.add(Modifier.toString(field.getModifiers()) + " " + field.getType() + " " + field.getName());
            }
        }
        Check.due("the constants", fields.toString(), "[public static final int NONE]");
        Check.due("NONE", RuleSheets.NONE, -1);
        Constructor<?>[] all = face.getDeclaredConstructors();
        Check.due("one constructor", all.length, 1);
        Check.due("public, without parameters", Modifier.isPublic(all[0].getModifiers())
                && all[0].getParameterCount() == 0 ? 1 : 0, 1);
        Check.finish("FaceTest");
    }

    private static boolean isOpen(Member member) {
        return !Modifier.isPrivate(member.getModifiers()) && !member.isSynthetic();
    }

    private static String told(Method method) {
        StringBuilder text = new StringBuilder();
        text.append(method.getReturnType()).append(' ').append(method.getName()).append('(');
        for (int i = 0; i < method.getParameterCount(); i++) {
            text.append(i == 0 ? "" : ", ").append(method.getParameterTypes()[i]);
        }
        text.append(')');
        for (Class<?> thrown : method.getExceptionTypes()) {
            text.append(' ').append(thrown.getSimpleName());
        }
        return text.toString();
    }
}
