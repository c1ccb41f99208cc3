import java.lang.reflect.InvocationTargetException;
import java.lang.reflect.Method;
import java.util.Arrays;
import java.util.Comparator;

/** Runs each case of a class, that is each of its static methods that takes a Due alone, on its own. */
final class Cases {
    private Cases() {
    }

    static void run(Class<?> tests) throws IllegalAccessException {
        Due due = new Due();
        int cases = 0;
        for (Method method : inOrder(tests)) {
            if (Arrays.equals(method.getParameterTypes(), new Class<?>[] {Due.class})) {
                method.setAccessible(true);
                runOne(method, due);
                cases++;
            }
        }
        System.out.print(cases + " cases, ");
        due.about(tests.getName());
        due.holds("it has no case", cases > 0);
        due.end();
    }

    private static void runOne(Method test, Due due) throws IllegalAccessException {
        due.about(test.getName());
        int before = due.asked();
        try {
            test.invoke(null, due);
        } catch (InvocationTargetException thrown) {
            due.holds("threw " + thrown.getCause(), false);
        }
        due.holds("it asks nothing", due.asked() > before);
    }

    private static Method[] inOrder(Class<?> tests) {
        Method[] methods = tests.getDeclaredMethods();
        Arrays.sort(methods, Comparator.comparing(Method::getName));
        return methods;
    }
}
