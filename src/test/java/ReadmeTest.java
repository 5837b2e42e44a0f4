import java.io.IOException;
import java.lang.reflect.InvocationTargetException;
import java.lang.reflect.Method;
import java.nio.charset.StandardCharsets;
import java.nio.file.Files;
import java.nio.file.Path;
import java.util.regex.Matcher;
import java.util.regex.Pattern;

/** The run of calls that README.md shows: each line's answer must be the one behind its comment's sign. */
public final class ReadmeTest {
    private static final Pattern LINE = Pattern.compile("room\\.(\\w+)\\((.*)\\); +// ([^:]+)(: .+)?");

    public static void main(String[] args) throws IOException, IllegalAccessException {
        String readme = Files.readString(Path.of("README.md"), StandardCharsets.UTF_8);
        String[] lines = readme.split("```java\n")[1].split("```")[0].split("\n");
        Check.due("Marginnote room = new Marginnote();", lines[0]);
        Marginnote room = new Marginnote();
        for (int i = 1; i < lines.length; i++) {
            if (!lines[i].isEmpty()) {
                checkLine(room, lines[i]);
            }
        }
        tellsOfAllTests(readme);
        Check.end();
    }

    private static void checkLine(Marginnote room, String line) throws IllegalAccessException {
        Matcher matcher = LINE.matcher(line);
        if (!matcher.matches()) {
            Check.fail("README.md has a line of another form: " + line);
            return;
        }
        String call = matcher.group(1) + "(" + matcher.group(2) + ") ";
        String got = answer(room, matcher.group(1), matcher.group(2).split(", "));
        Check.due(call + matcher.group(3), call + got);
    }

    private static String answer(Marginnote room, String name, String[] words) throws IllegalAccessException {
        Method method = method(name);
        Class<?>[] types = method.getParameterTypes();
        Object[] arguments = new Object[types.length];
        for (int i = 0; i < types.length; i++) {
            arguments[i] = value(types[i], words[i]);
        }
        try {
            Object answer = method.invoke(room, arguments);
            return answer instanceof Character ? "'" + answer + "'" : answer.toString();
        } catch (InvocationTargetException e) {
            return "throws " + e.getCause().getClass().getSimpleName();
        }
    }

    private static Method method(String name) {
        for (Method method : Marginnote.class.getDeclaredMethods()) {
            if (method.getName().equals(name)) {
                return method;
            }
        }
        throw new IllegalStateException("README.md names a method that there is not: " + name);
    }

    private static Object value(Class<?> type, String word) throws IllegalAccessException {
        if (type == boolean.class) {
            return word.equals("true");
        }
        if (type == char.class) {
            return word.charAt(1);
        }
        if (!word.startsWith("Marginnote.")) {
            return Integer.parseInt(word);
        }
        try {
            return Marginnote.class.getField(word.substring(word.indexOf('.') + 1)).getInt(null);
        } catch (NoSuchFieldException e) {
            throw new IllegalStateException(e);
        }
    }

    private static void tellsOfAllTests(String readme) throws IOException {
        try (var files = Files.list(Path.of("src/test/java"))) {
            for (Path file : (Iterable<Path>) files::iterator) {
                String name = file.getFileName().toString().replace(".java", "");
                if (!readme.contains("`" + name + "`")) {
                    Check.fail("README.md does not tell of " + name);
                }
            }
        }
    }
}
