import java.lang.reflect.InvocationTargetException;
import java.lang.reflect.Method;
import java.util.ArrayList;
import java.util.Comparator;
import java.util.List;

/** Runs a class whose tests hold to one sentence each: their names begin with p and the promise's two digits. */
final class Sentences {
    /** All classes of such tests; SentencesTest sees whether they leave a sentence out. */
    static final Class<?>[] ALL = {P01To08Test.class, P09To18Test.class, P19To22Test.class, P23To26Test.class,
        P27To29Test.class, P30To34Test.class, P35To42Test.class, P43To47Test.class};

    private Sentences() {
    }

    static List<Method> testsOf(Class<?> tests) {
        List<Method> all = new ArrayList<>();
        for (Method method : tests.getDeclaredMethods()) {
            if (method.isAnnotationPresent(Says.class)) {
                all.add(method);
            }
        }
        all.sort(Comparator.comparing(Method::getName));
        return all;
    }

    static void run(Class<?> tests) throws IllegalAccessException {
        Check check = new Check();
        for (Method method : testsOf(tests)) {
            check.begin(method.getName());
            try {
                method.setAccessible(true);
                method.invoke(null, check);
            } catch (InvocationTargetException e) {
                check.yes("threw " + e.getCause(), false);
            }
        }
        check.end(tests.getSimpleName());
    }
}
