import java.lang.reflect.InvocationTargetException;
import java.lang.reflect.Method;
import java.util.Arrays;
import java.util.Comparator;

/** Every method with every mix of rough arguments: it answers, or throws just what its head says, and changes nothing then. */
public final class RoughCallsTest {
    private static final int[] ROUGH = {Integer.MIN_VALUE, Integer.MIN_VALUE + 1, -65536, -99, -4, -3, -2, -1, 0, 1, 2, 3, 4,
        5, 6, 7, 8, 9, 10, 13, 14, 27, 28, 29, 48, 49, 50, 51, 59, 60, 61, 97, 98, 99, 127, 128, 255, 256, 2000, 65536,
        1 << 30, Integer.MAX_VALUE - 97, Integer.MAX_VALUE - 1, Integer.MAX_VALUE};
    private static final String[] STONES = {"..|..", "a/.b|.\\c:|dE..|./#a", "./\\|.a/|...", ".......|.......",
        "AAAAAAA|AAAAAAA|AAAAAAA|AAAAAAA|AAAAAAA|AAAAAAA|AAAAAAA", "#a|aa", "##|##|##|##|##|##|##"};

    public static void main(String[] args) throws IllegalAccessException {
        Method[] methods = RuneBands.class.getDeclaredMethods();
        Arrays.sort(methods, Comparator.comparing(Method::getName));
        for (String text : STONES) {
            for (Method method : methods) {
                if ((method.getModifiers() & java.lang.reflect.Modifier.PUBLIC) != 0) {
                    callRoughly(text, method);
                }
            }
        }
        Check.end();
    }

    private static void callRoughly(String text, Method method) throws IllegalAccessException {
        int count = method.getParameterCount();
        for (int first : count > 0 ? ROUGH : new int[1]) {
            RuneBands stone = Stones.of(text, "a", "abcdefgh");
            for (int second : count > 1 ? ROUGH : new int[1]) {
                Object[] given = count == 0 ? new Object[0] : count == 1 ? new Object[] {first} : new Object[] {first, second};
                callOnce(stone, method, given);
            }
        }
    }

    private static void callOnce(RuneBands stone, Method method, Object[] given) throws IllegalAccessException {
        long before = stone.digest();
        String name = method.getName() + Arrays.toString(given);
        try {
            method.invoke(stone, given);
            Check.holds(name, true);
        } catch (InvocationTargetException e) {
            Class<?> thrown = e.getCause().getClass();
            Check.holds(name + " throws " + thrown, Arrays.asList(method.getExceptionTypes()).contains(thrown));
            Check.same(name + ": the digest afterwards", stone.digest(), before);
        }
    }
}
