import java.io.IOException;
import java.lang.reflect.Constructor;
import java.lang.reflect.Field;
import java.lang.reflect.Member;
import java.lang.reflect.Method;
import java.lang.reflect.Modifier;
import java.nio.file.Files;
import java.nio.file.Path;
import java.util.Arrays;
import java.util.Set;
import java.util.TreeSet;
import java.util.regex.Matcher;
import java.util.regex.Pattern;

/** The public face, and what LANGUAGE.md asks of the file as a whole. */
public final class FaceTest {
    private static final String[] FACE = {
        "int strip(int, int)", "int layer(int)", "boolean lies(int)", "boolean clear(int)", "int open(int)",
        "int orders()", "int safe(int)", "int panel(int, int, int, int, int)", "int of(int, int)", "boolean tear(int)",
        "int flap(int)", "int bend(int, int)", "boolean stuck(int, boolean)", "void weights(int, int)",
        "int push(int, int)", "int turn(int, int)", "int trim(int, int)", "int world(int, int, int)",
        "int angle(int, int)", "int least(int, int)", "int goal(int)", "int feed(int, int, int, int, int)",
        "int rules(int)", "int fault()", "int asks()", "int dust(int, int)", "int fly(int)", "int note(int, int)",
        "int coat(int, int)", "int sight(int, int, int)", "int fits(int)", "int fit(int, int)", "int shows(int)",
        "int knot(int, int, boolean)", "void pull(int, int, int)", "int string(int, int)", "boolean hangs()",
        "boolean slack(int)", "boolean taut(int)", "long ease(int)", "int cut()", "int offer(int, int, int, int)",
        "int sheet(int, int, int)", "int late(int, int)", "int window(int)", "int count(int)"};

    public static void main(String[] args) throws IOException {
        Check check = new Check();
        testFace(check);
        testDocument(check);
        testMembers(check);
        testSource(check);
        check.end("FaceTest");
    }

    private static String signature(Method method) {
        String row = Arrays.toString(Arrays.stream(method.getParameterTypes()).map(Class::getName).toArray());
        return method.getReturnType() + " " + method.getName() + "(" + row.substring(1, row.length() - 1) + ")";
    }

    private static void testFace(Check check) {
        Set<String> due = new TreeSet<>(Arrays.asList(FACE));
        Set<String> got = new TreeSet<>();
        for (Method method : LightSails.class.getDeclaredMethods()) {
            if (!Modifier.isPrivate(method.getModifiers())) {
                check.yes(method + " is public", Modifier.isPublic(method.getModifiers()));
                check.no(method + " is static", Modifier.isStatic(method.getModifiers()));
                got.add(signature(method));
            }
        }
        check.yes("the face is " + got, got.equals(due));
        check.yes("the class is final", Modifier.isFinal(LightSails.class.getModifiers()));
        Constructor<?>[] makers = LightSails.class.getDeclaredConstructors();
        check.same("constructors", makers.length, 1);
        check.yes("the constructor is public", Modifier.isPublic(makers[0].getModifiers()));
        check.same("its arguments", makers[0].getParameterCount(), 0);
    }

    /** The face as the document writes it out, with what each method throws, in its order. */
    private static void testDocument(Check check) throws IOException {
        Path path = Path.of("../shared/DOC.md");
        if (!Files.exists(path)) {
            System.out.println("FaceTest: there is no " + path);
            return;
        }
        String document = Files.readString(path);
        int from = document.indexOf("```java");
        String written = document.substring(from, document.indexOf("```", from + 3));
        check.yes("NONE is -1", written.contains("public static final int NONE = -1;") && LightSails.NONE == -1);
        Set<String> due = new TreeSet<>();
        Matcher row = Pattern.compile("public (\\w+ \\w+)\\((.*?)\\)(?: throws (.*?))?;").matcher(written);
        while (row.find()) {
            due.add(row.group(1) + "(" + row.group(2).replaceAll(" \\w+(, |$)", "$1") + ") " + row.group(3));
        }
        Set<String> got = new TreeSet<>();
        for (Method method : LightSails.class.getDeclaredMethods()) {
            if (Modifier.isPublic(method.getModifiers())) {
                Object[] thrown = Arrays.stream(method.getExceptionTypes()).map(Class::getSimpleName).toArray();
                String rest = Arrays.toString(thrown);
                got.add(signature(method) + " " + (thrown.length == 0 ? null : rest.substring(1, rest.length() - 1)));
            }
        }
        check.same("methods in the document", due.size(), FACE.length);
        check.yes("the document's face is " + due + ", the class has " + got, due.equals(got));
    }

    private static void testMembers(Check check) {
        Set<String> publicNames = new TreeSet<>();
        for (String row : FACE) {
            publicNames.add(row.substring(row.indexOf(' ') + 1, row.indexOf('(')));
        }
        for (Field field : LightSails.class.getDeclaredFields()) {
            boolean isNone = field.getName().equals("NONE");
            check.yes(field + " is private", isNone || Modifier.isPrivate(field.getModifiers()));
        }
        Class<?>[] inside = LightSails.class.getDeclaredClasses();
        check.yes("classes in the file: " + (inside.length + 1), inside.length + 1 <= 12);
        for (Class<?> one : inside) {
            check.yes(one + " is static", Modifier.isStatic(one.getModifiers()));
            check.no(one + " is public", Modifier.isPublic(one.getModifiers()));
            testNames(check, one, publicNames);
            testFields(check, one);
        }
        for (Method method : LightSails.class.getDeclaredMethods()) {
            boolean isPrivate = Modifier.isPrivate(method.getModifiers());
            check.no(method + " has a public name", isPrivate && publicNames.contains(method.getName()));
        }
    }

    private static void testNames(Check check, Class<?> one, Set<String> publicNames) {
        for (Member method : one.getDeclaredMethods()) {
            check.no(method + " has a public name", publicNames.contains(method.getName()));
        }
    }

    private static void testFields(Check check, Class<?> one) {
        int fields = 0;
        for (Field field : one.getDeclaredFields()) {
            boolean isStatic = Modifier.isStatic(field.getModifiers());
            check.yes(field + ": static means final", !isStatic || Modifier.isFinal(field.getModifiers()));
            fields += isStatic ? 0 : 1;
        }
        check.yes(one + " has " + fields + " fields", fields <= 20);
    }

    private static void testSource(Check check) throws IOException {
        String source = Files.readString(Path.of("src/main/java/LightSails.java"));
        String[] never = {"catch", "try {", "finally", "->", "::", "synchronized", "assert", "package ", "System.nano",
            "System.current", "Random", "Exact(", "getMessage", "new RuntimeException", "double", "float", "@"};
        for (String word : never) {
            check.no("the file has " + word, source.contains(word));
        }
        for (String line : source.split("\n")) {
            if (line.startsWith("import ")) {
                check.yes(line, line.equals("import java.util.NoSuchElementException;"));
            }
            check.yes(line, line.length() <= 120 && line.chars().allMatch(c -> c >= 32 && c < 127));
        }
        testMethodLengths(check, source);
    }

    private static void testMethodLengths(Check check, String source) {
        int begun = -1;
        String[] lines = source.split("\n");
        for (int i = 0; i < lines.length; i++) {
            String line = lines[i];
            boolean isHead = line.matches(" {4}( {4})?(public|private) .*") && line.contains("(")
                    && !line.contains("=") && !line.endsWith(";");
            begun = isHead ? i : begun;
            if (begun >= 0 && line.matches(" {4}( {4})?}")) {
                check.yes("the method at line " + (begun + 1) + " is short", i - begun < 60);
                begun = -1;
            }
        }
    }
}
