import java.lang.reflect.InvocationTargetException;
import java.lang.reflect.Method;
import java.lang.reflect.Modifier;
import java.util.ArrayList;
import java.util.Arrays;
import java.util.Comparator;
import java.util.List;
import java.util.Random;

/**
 * Calls of everything with any numbers, 512 on each object: what a call throws is one of the exceptions that its face
 * names, and comes from a throw statement of the class, never from the machine or the library.
 */
public final class WildRunsTest {
    private static final int RUNS = 3000;
    private static final int CALLS = 512;
    private static final int[] ENDS = {Integer.MIN_VALUE, Integer.MIN_VALUE + 1, -1000001, -301, -101, -21, -20, -9, -8,
        -6, -5, -3, -2, -1, 0, 1, 2, 3, 4, 5, 6, 7, 8, 9, 12, 15, 16, 17, 20, 21, 39, 40, 71, 72, 100, 101, 200, 201, 255,
        256, 300, 1000, 1001, 1200, 1201, 1999, 2000, 3000, 3001, 10000, 1000000, Integer.MAX_VALUE};
    private static final String[] TOKENS = ("in keep out if or and not rho angle day far lead steps torn least most"
            + " ( ) [ ] < > = + - * / , ; 0 1 7 9999 10000").split(" ");
    private static final Random RANDOM = new Random(20261118);
    private static final Check CHECK = new Check();

    public static void main(String[] args) throws IllegalAccessException {
        List<Method> face = new ArrayList<>();
        for (Method method : LightSails.class.getDeclaredMethods()) {
            if (Modifier.isPublic(method.getModifiers())) {
                face.add(method);
            }
        }
        face.sort(Comparator.comparing(Method::getName));
        for (int run = 0; run < RUNS; run++) {
            LightSails x = new LightSails();
            for (int i = 0; i < CALLS; i++) {
                call(x, face.get(RANDOM.nextInt(face.size())), run % 3 == 0);
            }
        }
        CHECK.end("WildRunsTest");
    }

    private static void call(LightSails x, Method method, boolean wild) throws IllegalAccessException {
        Object[] told = new Object[method.getParameterCount()];
        boolean isText = method.getName().equals("feed") && RANDOM.nextInt(3) > 0;
        int[] five = Texts.five(isText ? text() : "", 0);
        for (int i = 0; i < told.length; i++) {
            if (method.getParameterTypes()[i] == boolean.class) {
                told[i] = RANDOM.nextInt(3) == 0;
            } else {
                told[i] = isText ? five[i] : number(wild);
            }
        }
        Throwable thrown = null;
        try {
            method.invoke(x, told);
        } catch (InvocationTargetException e) {
            thrown = e.getCause();
        }
        boolean fine = thrown == null || isNamed(method, thrown) && isThrownByClass(thrown);
        CHECK.yes(fine ? "" : method.getName() + Arrays.toString(told) + " threw " + thrown, fine);
    }

    private static int number(boolean wild) {
        if (wild || RANDOM.nextInt(5) == 0) {
            return ENDS[RANDOM.nextInt(ENDS.length)];
        }
        return RANDOM.nextInt(3) == 0 ? RANDOM.nextInt(200) - 50 : RANDOM.nextInt(8) - 1;
    }

    private static String text() {
        StringBuilder text = new StringBuilder();
        while (text.length() < 20) {
            text.append(TOKENS[RANDOM.nextInt(TOKENS.length)]).append(RANDOM.nextBoolean() ? " " : "");
        }
        return text.toString();
    }

    private static boolean isNamed(Method method, Throwable thrown) {
        return Arrays.asList(method.getExceptionTypes()).contains(thrown.getClass());
    }

    /** The class throws in methods of its own that are named need..; the machine throws wherever it stands. */
    private static boolean isThrownByClass(Throwable thrown) {
        StackTraceElement[] trace = thrown.getStackTrace();
        return trace.length > 0 && trace[0].getClassName().equals("LightSails")
                && trace[0].getMethodName().startsWith("need");
    }
}
