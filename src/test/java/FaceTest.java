import java.lang.reflect.Constructor;
import java.lang.reflect.Field;
import java.lang.reflect.Method;
import java.lang.reflect.Modifier;
import java.util.ArrayList;
import java.util.Collections;
import java.util.List;

/** "The public face": every constant, constructor, method and throws clause, and nothing besides. */
public final class FaceTest {
    private static final String INDEX = " throws IndexOutOfBoundsException";
    private static final String ARGUMENT = " throws IllegalArgumentException";
    private static final String STATE = " throws IllegalStateException";
    private static final String BOTH = " throws IndexOutOfBoundsException, IllegalArgumentException";

    private static final String[] DUE = {
        "int setSize(int, int)" + ARGUMENT, "int setCell(int, int)" + BOTH, "int turnCorners()", "int turnStone()",
        "int addWord()" + STATE, "int removeWord(int)" + INDEX, "int cell(int, int)" + BOTH, "int value(int)" + ARGUMENT,
        "int word(int, int)" + INDEX, "int band(int, int)" + BOTH, "int cellOf(int, int)" + INDEX,
        "int read(int, int)" + INDEX, "int wordsOf(int)" + INDEX, "boolean alike(int)" + INDEX,
        "int choices(int)" + ARGUMENT, "int nodes(int)" + ARGUMENT, "int chosen(int)" + INDEX, "int fewest()",
        "int repair()", "double told()", "int append(int)" + ARGUMENT + ", IllegalStateException", "int clearText()",
        "int parse()", "int undo()" + STATE, "long digest()",
    };

    public static void main(String[] args) {
        Class<?> face = RuneBands.class;
        Check.holds("public and final", face.getModifiers() == (Modifier.PUBLIC | Modifier.FINAL));
        Check.same("NONE", RuneBands.NONE, -1);
        Check.same("constructors", face.getDeclaredConstructors().length, 1);
        for (Constructor<?> made : face.getDeclaredConstructors()) {
            Check.holds("a public constructor without arguments",
                Modifier.isPublic(made.getModifiers()) && made.getParameterCount() == 0);
        }
        methods(face);
        fields(face);
        for (Class<?> inside : face.getDeclaredClasses()) {
            Check.holds(inside.getName() + " is static", Modifier.isStatic(inside.getModifiers()));
            Check.holds(inside.getName() + " is hidden",
                !Modifier.isPublic(inside.getModifiers()) && !Modifier.isProtected(inside.getModifiers()));
        }
        Check.end();
    }

    private static void methods(Class<?> face) {
        List<String> due = new ArrayList<>(List.of(DUE));
        List<String> got = new ArrayList<>();
        List<String> names = new ArrayList<>();
        for (Method method : face.getDeclaredMethods()) {
            if (Modifier.isPublic(method.getModifiers())) {
                got.add(told(method));
                names.add(method.getName());
                Check.holds(method.getName() + " is no static method", !Modifier.isStatic(method.getModifiers()));
            }
        }
        Collections.sort(due);
        Collections.sort(got);
        Check.sameText("the methods", String.join("; ", got), String.join("; ", due));
        for (Method method : face.getDeclaredMethods()) {
            if (!Modifier.isPublic(method.getModifiers())) {
                Check.holds(method.getName() + " is private", Modifier.isPrivate(method.getModifiers()));
                Check.holds(method.getName() + " bears no name of the face", !names.contains(method.getName()));
            }
        }
    }

    private static String told(Method method) {
        StringBuilder text = new StringBuilder(method.getReturnType().getSimpleName());
        text.append(' ').append(method.getName()).append('(');
        for (Class<?> kind : method.getParameterTypes()) {
            text.append(text.charAt(text.length() - 1) == '(' ? "" : ", ").append(kind.getSimpleName());
        }
        text.append(')');
        String before = " throws ";
        for (Class<?> kind : method.getExceptionTypes()) {
            text.append(before).append(kind.getSimpleName());
            before = ", ";
        }
        return text.toString();
    }

    private static void fields(Class<?> face) {
        for (Field field : face.getDeclaredFields()) {
            boolean constant = field.getName().equals("NONE");
            Check.holds(field.getName(), constant == Modifier.isPublic(field.getModifiers()));
            Check.holds(field.getName() + " is hidden", constant || Modifier.isPrivate(field.getModifiers()));
            Check.holds(field.getName() + " stays, if it is static",
                !Modifier.isStatic(field.getModifiers()) || Modifier.isFinal(field.getModifiers()));
        }
    }
}
