import java.lang.reflect.Constructor;
import java.lang.reflect.Field;
import java.lang.reflect.Member;
import java.lang.reflect.Method;
import java.lang.reflect.Modifier;
import java.util.ArrayList;
import java.util.Arrays;
import java.util.List;
import java.util.TreeSet;
import java.util.stream.Collectors;

/** The public face of the document, and no other member that can be seen from outside. */
public final class FaceTest {
    private static final String INDEX = "IndexOutOfBoundsException";
    private static final String ARGUMENT = "IllegalArgumentException";
    private static final String STATE = "IllegalStateException";

    private static final List<String> FACE = List.of(
            "ChocolateMoulds()",
            "int bowl(int) " + ARGUMENT + " " + STATE,
            "int warm(int int int) " + INDEX + " " + ARGUMENT,
            "int seed(int int) " + INDEX + " " + ARGUMENT,
            "int pour(int int) " + INDEX + " " + ARGUMENT,
            "int cast(int int int) " + INDEX + " " + ARGUMENT + " " + STATE,
            "int polish(int) " + INDEX,
            "int split(int int boolean) " + INDEX + " " + STATE,
            "int melt(int int) " + INDEX + " " + ARGUMENT,
            "int box(int int) " + ARGUMENT + " " + STATE,
            "int fill()",
            "int pass(int int) " + ARGUMENT,
            "int told(int int) " + INDEX,
            "int about(int int) " + INDEX,
            "int order(int int) " + INDEX,
            "int count(int) " + INDEX,
            "int would(int int int) " + INDEX + " " + ARGUMENT,
            "int best(int int int) " + INDEX + " " + ARGUMENT,
            "int until(int int) " + INDEX + " " + ARGUMENT,
            "int advise()",
            "double mean()",
            "long digest()");

    public static void main(String[] args) {
        Class<?> face = ChocolateMoulds.class;
        List<String> seen = new ArrayList<>();
        for (Constructor<?> constructor : face.getDeclaredConstructors()) {
            if (isSeen(constructor)) {
                seen.add((face.getName() + "(" + names(constructor.getParameterTypes()) + ") "
                        + names(constructor.getExceptionTypes())).trim());
            }
        }
        for (Method method : face.getDeclaredMethods()) {
            if (isSeen(method)) {
                seen.add((method.getReturnType().getSimpleName() + " " + method.getName()
                        + "(" + names(method.getParameterTypes()) + ") " + names(method.getExceptionTypes())).trim());
            }
        }
        for (Field field : face.getDeclaredFields()) {
            if (isSeen(field)) {
                seen.add("field " + field.getName());
            }
        }
        Calls.due("the face", String.join("\n", new TreeSet<>(seen)), String.join("\n", new TreeSet<>(FACE)));
        Calls.due("public and final", String.valueOf(face.getModifiers()),
                String.valueOf(Modifier.PUBLIC | Modifier.FINAL));
        Calls.end();
    }

    private static boolean isSeen(Member member) {
        return !Modifier.isPrivate(member.getModifiers()) && !member.isSynthetic();
    }

    private static String names(Class<?>[] types) {
        return Arrays.stream(types).map(Class::getSimpleName).collect(Collectors.joining(" "));
    }
}
