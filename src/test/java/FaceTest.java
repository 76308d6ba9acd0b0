import java.lang.reflect.Constructor;
import java.lang.reflect.Field;
import java.lang.reflect.Method;
import java.lang.reflect.Modifier;
import java.util.Arrays;
import java.util.Set;
import java.util.TreeSet;

/** The public face: what the document lists, and no other member that is not private. */
public final class FaceTest {
    private static final String[] FACE = {
        "BAD_ARG = -1", "FULL = -2", "TOO_FEW = -3", "NONE = -4", "OPEN = 2",
        "ExprCrossword(int, int)", "letter(int)", "unit()", "cat()", "alt()", "star()",
        "reverse()", "setLine(int)", "depth()", "letters()", "freeLine(int)",
        "pin(int, int, int)", "pinned(int, int)", "fillings()", "filling(int)",
        "below(int)", "forced(int, int)", "lineWords(int)",
    };

    public static void main(String[] args) throws IllegalAccessException {
        Set<String> due = new TreeSet<>(Arrays.asList(FACE));
        Set<String> got = new TreeSet<>();
        for (Field field : ExprCrossword.class.getDeclaredFields()) {
            if (!Modifier.isPrivate(field.getModifiers())) {
                String constant = Modifier.toString(field.getModifiers()) + " " + field.getType();
                got.add(constant.equals("public static final int")
                    ? field.getName() + " = " + field.getInt(null) : constant + " " + field.getName());
            }
        }
        for (Constructor<?> made : ExprCrossword.class.getDeclaredConstructors()) {
            if (!Modifier.isPrivate(made.getModifiers())) {
                got.add(Modifier.isPublic(made.getModifiers())
                    ? "ExprCrossword" + parameters(made.getParameterTypes()) : made.toString());
            }
        }
        for (Method method : ExprCrossword.class.getDeclaredMethods()) {
            if (!Modifier.isPrivate(method.getModifiers())) {
                boolean plain = method.getModifiers() == Modifier.PUBLIC && method.getReturnType() == int.class;
                got.add(plain ? method.getName() + parameters(method.getParameterTypes()) : method.toString());
            }
        }
        int kind = ExprCrossword.class.getModifiers();
        if (!got.equals(due) || kind != (Modifier.PUBLIC | Modifier.FINAL)) {
            System.out.println("the face is " + Modifier.toString(kind) + " " + got + ", due is " + due);
            System.exit(1);
        }
        System.out.println("the face is as due");
    }

    private static String parameters(Class<?>[] types) {
        String text = Arrays.toString(types);
        return "(" + text.substring(1, text.length() - 1) + ")";
    }
}
