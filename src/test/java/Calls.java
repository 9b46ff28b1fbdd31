import java.lang.reflect.InvocationTargetException;
import java.lang.reflect.Method;
import java.util.List;
import java.util.Set;

/** Makes calls that are written as rows of text, and compares their answers with those that are due. */
final class Calls {
    private static final Set<String> ONLY_TELL = Set.of(
            "told", "about", "order", "count", "would", "best", "until", "advise", "mean", "digest");

    private static int wrong = 0;

    private Calls() {
    }

    /** Makes one call, such as "split 0 2 true"; answers its result, or "throws." and the exception's name. */
    static String answer(Object object, String call) {
        List<String> words = List.of(call.trim().split(" +"));
        Method method = methodOf(object, words.get(0));
        Class<?>[] types = method.getParameterTypes();
        if (types.length != words.size() - 1) {
            throw new IllegalArgumentException("wrong number of arguments: " + call);
        }
        Object[] arguments = new Object[types.length];
        for (int i = 0; i < types.length; i++) {
            String word = words.get(i + 1);
            if (types[i] == boolean.class) {
                arguments[i] = Boolean.valueOf(word);
            } else {
                arguments[i] = Integer.valueOf(word);
            }
        }
        try {
            return String.valueOf(method.invoke(object, arguments));
        } catch (InvocationTargetException e) {
            return "throws." + e.getCause().getClass().getSimpleName();
        } catch (IllegalAccessException e) {
            throw new IllegalStateException(e);
        }
    }

    private static Method methodOf(Object object, String name) {
        for (Method method : object.getClass().getDeclaredMethods()) {
            if (method.getName().equals(name) && !method.isSynthetic()) {
                return method;
            }
        }
        throw new IllegalArgumentException("no method " + name);
    }

    /**
     * Plays rows like "bowl 100 = 0" on a new object. A call that throws, or that only tells, must leave the
     * digest as it was. A row that starts with # is a comment. Two calls of digest come with each row, so
     * some 170 rows are the most before an object has had its 512 calls.
     */
    static void play(String title, String rows) {
        ChocolateMoulds moulds = new ChocolateMoulds();
        int line = 0;
        for (String row : rows.split("\n")) {
            line++;
            if (row.isBlank() || row.trim().startsWith("#")) {
                continue;
            }
            String[] sides = row.split(" = ");
            long before = moulds.digest();
            String got = answer(moulds, sides[0]);
            due(title + ", row " + line + ": " + sides[0].trim(), got, sides[1].trim());
            boolean mayChange = !got.startsWith("throws.") && !ONLY_TELL.contains(sides[0].trim().split(" ")[0]);
            if (moulds.digest() != before && !mayChange) {
                due(title + ", row " + line + ": " + sides[0].trim(), "changed something", "nothing changed");
            }
        }
    }

    static void due(String what, String got, String want) {
        if (!got.equals(want)) {
            wrong++;
            System.out.println(what + " answered " + got + ", due is " + want);
        }
    }

    static void end() {
        System.out.println(wrong == 0 ? "all answers are as due" : wrong + " answers are not as due");
        if (wrong != 0) {
            System.exit(1);
        }
    }
}
