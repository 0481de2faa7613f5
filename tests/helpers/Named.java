import java.lang.reflect.InvocationTargetException;
import java.lang.reflect.Method;
import java.util.Arrays;
import java.util.Comparator;

/**
 * Runs every test of a class, in the order of their names. A test is a static method without arguments that is named
 * after its promise: promise07EachByteIsFrom0To255. A promise without a test is a failure, too.
 */
public final class Named {
    public static void run(Class<?> tests, Due due, int... promises) {
        Method[] all = tests.getDeclaredMethods();
        Arrays.sort(all, Comparator.comparing(Method::getName));
        int ran = 0;
        for (int promise : promises) {
            int before = ran;
            for (Method m : all) {
                if (m.getParameterCount() == 0 && m.getName().startsWith(String.format("promise%02d", promise))) {
                    runOne(m, due);
                    ran++;
                }
            }
            if (ran == before) {
                due.fail("no test of promise " + promise);
            }
        }
        System.out.print(ran + " tests: ");
        due.end();
    }

    private static void runOne(Method m, Due due) {
        due.begin(m.getName());
        try {
            m.setAccessible(true);
            m.invoke(null);
        } catch (InvocationTargetException e) {
            due.fail("threw " + e.getCause());
        } catch (IllegalAccessException e) {
            due.fail("is not a test: " + e);
        }
    }
}
