import java.lang.reflect.InvocationTargetException;
import java.lang.reflect.Method;
import java.util.Arrays;
import java.util.Comparator;

/** Runs every test of a class that quotes the document, and prints its promise's number with what is not as due. */
final class Bounds {
    private Bounds() {
    }

    static void run(Class<?> tests) {
        Method[] methods = tests.getDeclaredMethods();
        Arrays.sort(methods, Comparator.comparing(Method::getName));
        for (Method method : methods) {
            Says says = method.getAnnotation(Says.class);
            if (says != null) {
                Check.within("promise " + says.promise() + ", " + method.getName() + ": ");
                runOne(method);
            }
        }
        Check.within("");
        Check.end(tests.getSimpleName());
    }

    private static void runOne(Method method) {
        int before = Check.asked();
        try {
            method.setAccessible(true);
            method.invoke(null);
        } catch (InvocationTargetException e) {
            Check.is("it throws " + e.getCause(), 1, 0);
        } catch (IllegalAccessException e) {
            Check.is("it can't be called: " + e, 1, 0);
        }
        Check.is("it asks something", Check.asked() > before ? 1 : 0, 1);
    }
}
