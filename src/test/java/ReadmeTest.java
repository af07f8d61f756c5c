import java.io.IOException;
import java.lang.reflect.Field;
import java.lang.reflect.InvocationTargetException;
import java.lang.reflect.Method;
import java.lang.reflect.Modifier;
import java.nio.file.Files;
import java.nio.file.Path;
import java.util.regex.Matcher;
import java.util.regex.Pattern;

/** README.md: each call of its example answers what stands behind it, and it names the whole face. */
public final class ReadmeTest {
    private static final Pattern ROW = Pattern.compile("x\\.(\\w+)\\((.*)\\); +// (-?\\d+)(:.*)?");
    private static final Check CHECK = new Check();

    public static void main(String[] args) throws IOException, ReflectiveOperationException {
        String page = Files.readString(Path.of("README.md"));
        exampleAnswersAsItSays(page);
        faceIsNamed(page);
        CHECK.end("ReadmeTest");
    }

    private static void exampleAnswersAsItSays(String page) throws ReflectiveOperationException {
        int begin = page.indexOf("```java\n") + 8;
        String[] rows = page.substring(begin, page.indexOf("```", begin)).split("\n");
        CHECK.due("the example makes an object first", rows[0].equals("TrackedLetters x = new TrackedLetters();") ? 1 : 0, 1);
        TrackedLetters x = new TrackedLetters();
        for (int i = 1; i < rows.length; i++) {
            Matcher m = ROW.matcher(rows[i]);
            CHECK.due("the example has a call and its answer: " + rows[i], m.matches() ? 1 : 0, 1);
            if (m.matches()) {
                CHECK.due("README.md, row " + i + ": " + rows[i], answer(x, m.group(1), m.group(2)), Long.parseLong(m.group(3)));
            }
        }
        CHECK.reads("README.md, the end of the example", x, 0, "abc");
    }

    private static long answer(TrackedLetters x, String name, String handed) throws IllegalAccessException, InvocationTargetException {
        String[] words = handed.isEmpty() ? new String[0] : handed.split(", ");
        for (Method m : TrackedLetters.class.getDeclaredMethods()) {
            if (m.getName().equals(name) && m.getParameterCount() == words.length) {
                Object[] values = new Object[words.length];
                for (int i = 0; i < words.length; i++) {
                    values[i] = value(words[i]);
                }
                return ((Number) m.invoke(x, values)).longValue();
            }
        }
        CHECK.due("there is " + name, 0, 1);
        return 0;
    }

    private static Object value(String word) {
        if (word.equals("true") || word.equals("false")) {
            return Boolean.valueOf(word);
        }
        return word.startsWith("'") ? (int) word.charAt(1) : Integer.valueOf(word);
    }

    private static void faceIsNamed(String page) throws IllegalAccessException {
        for (Method m : TrackedLetters.class.getDeclaredMethods()) {
            if (Modifier.isPublic(m.getModifiers())) {
                CHECK.due("README.md names " + m.getName(), page.contains("`" + m.getName() + "(") ? 1 : 0, 1);
            }
        }
        for (Field f : TrackedLetters.class.getDeclaredFields()) {
            if (Modifier.isPublic(f.getModifiers())) {
                String named = "`" + f.getName() + "` (" + f.getInt(null) + ")";
                CHECK.due("README.md has " + named, page.contains(named) ? 1 : 0, 1);
            }
        }
        for (String file : new java.io.File("src/test/java").list()) {
            if (file.endsWith("Test.java")) {
                CHECK.due("README.md names " + file, page.contains(file) ? 1 : 0, 1);
            }
        }
    }
}
