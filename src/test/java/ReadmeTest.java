import java.io.IOException;
import java.lang.reflect.InvocationTargetException;
import java.lang.reflect.Method;
import java.nio.file.Files;
import java.nio.file.Path;
import java.util.regex.Matcher;
import java.util.regex.Pattern;

/** Runs the calls that README.md shows, in their order, and compares each answer with the one that stands behind it. */
public final class ReadmeTest {
    private static final Pattern CALL = Pattern.compile("sails\\.(\\w+)\\((.*?)\\);(?:\\s+// (\\S+))?");

    public static void main(String[] args) throws IOException, IllegalAccessException {
        Check check = new Check();
        LightSails sails = new LightSails();
        int calls = 0;
        for (String line : Files.readAllLines(Path.of("README.md"))) {
            Matcher found = CALL.matcher(line);
            if (line.startsWith("sails.")) {
                check.yes("a call can be read: " + line, found.matches());
                String due = found.group(3) == null ? "null" : found.group(3);
                String got = answer(sails, found.group(1), found.group(2));
                check.yes(line + " answered " + got, got.equals(due));
                calls++;
            }
        }
        check.yes("calls in README.md: " + calls, calls > 0 && calls <= 512);
        check.end("ReadmeTest");
    }

    private static String answer(LightSails sails, String name, String row) throws IllegalAccessException {
        String[] words = row.isEmpty() ? new String[0] : row.split(", ");
        Object[] told = new Object[words.length];
        for (int i = 0; i < words.length; i++) {
            boolean isFlag = words[i].equals("true") || words[i].equals("false");
            told[i] = isFlag ? (Object) Boolean.valueOf(words[i]) : (Object) Integer.decode(words[i]);
        }
        for (Method method : LightSails.class.getMethods()) {
            if (method.getName().equals(name) && method.getParameterCount() == told.length) {
                try {
                    return String.valueOf(method.invoke(sails, told));
                } catch (InvocationTargetException e) {
                    return e.getCause().getClass().getSimpleName();
                }
            }
        }
        return "there is no such call";
    }
}
