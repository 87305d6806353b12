import java.lang.reflect.InvocationTargetException;
import java.lang.reflect.Method;
import java.lang.reflect.Modifier;
import java.util.Arrays;
import java.util.Comparator;

/** Cases: each method of a class whose name begins with "promise" or "terms" is a test of its own, named after its case. */
final class Cases {
    private Cases() {
    }

    static void run(Class<?> tests) throws IllegalAccessException {
        Method[] methods = tests.getDeclaredMethods();
        Arrays.sort(methods, Comparator.comparing(Method::getName));
        int cases = 0;
        for (Method method : methods) {
            if (method.getName().matches("(promise|terms).*")) {
                runOne(method);
                cases++;
            }
        }
        System.out.println(cases + " cases");
        Check.end();
    }

    private static void runOne(Method method) throws IllegalAccessException {
        Check.enter(method.getName());
        int before = Check.made();
        try {
            Check.holds("a static method without arguments",
                Modifier.isStatic(method.getModifiers()) && method.getParameterCount() == 0);
            method.invoke(null);
        } catch (InvocationTargetException e) {
            Check.sameText("the case", "threw " + e.getCause(), "threw nothing");
        }
        Check.holds("it looks at an answer", Check.made() > before + 1);
        Check.enter("");
    }
}
