import java.io.IOException;
import java.lang.reflect.Constructor;
import java.lang.reflect.Field;
import java.lang.reflect.Method;
import java.lang.reflect.Modifier;
import java.nio.charset.StandardCharsets;
import java.nio.file.Files;
import java.nio.file.Path;
import java.util.Map;
import java.util.Set;
import java.util.TreeMap;
import java.util.TreeSet;
import java.util.regex.Matcher;
import java.util.regex.Pattern;

/** The rules of the language that can be seen without running the program, and the face. */
public final class LanguageTest {
    private static final String FACE = """
        int type(int, char)
        int split(int)
        int erase(int)
        int moveTo(int, int)
        int extend(int, int)
        int mark(int, int, boolean)
        int comment(int)
        int setKind(int, int, int)
        int nest(int, int, int)
        boolean propose(int, boolean)
        int decide(int, int, boolean)
        int allow(int, int, int)
        int undo(int)
        int redo(int)
        int send(int, int)
        int deliver(int)
        int save(int)
        int crash(int, int)
        int name(int)
        int bringBack(int, int)
        int differ(int, int)
        int length(int)
        int shown(int)
        int element(int, int)
        int elementAnew(int, int)
        char letter(int, int)
        int proposed(int, int)
        int open(int)
        boolean isMarked(int, int, int)
        int covered(int, int)
        int blocks(int)
        int kind(int, int)
        int depth(int, int)
        int level(int, int)
        int cursor(int)
        int tail(int)
        int graves(int)
        int buried(int)
        int acts()
        int has(int)
        int actAt(int, int)
        int act(int)
        boolean isUndone(int, int)
        """;
    private static final String[] FORBIDDEN = {"->", "::", "\\bimport\\b", "\\bpackage\\b", "\\bcatch\\b", "\\btry\\b",
        "\\bfinally\\b", "\\bassert\\b", "\\bsynchronized\\b", "\\binstanceof\\b", "Exact\\b", "\\bSystem\\.(?!arraycopy)",
        "\\bstatic\\s*\\{", "@", "\\bThread\\b", "\\bRandom\\b", "\\bNullPointerException\\b", "\\bClass\\b", "\"\\s*\\+",
        "\\+\\s*\"", "\\bprotected\\b", "\\bvolatile\\b", "\\btransient\\b", "\\bvar\\b", "\\blong\\b", "\\bdouble\\b"};

    public static void main(String[] args) throws IOException {
        face();
        members();
        String source = Files.readString(Path.of("src/main/java/Marginnote.java"), StandardCharsets.UTF_8);
        tokens(source);
        throwsOnlyTheNamedOnes(source);
        lengthsOfMethods(source);
        depthsOfCalls(source);
        Check.end();
    }

    private static void face() {
        Set<String> want = new TreeSet<>();
        for (String line : FACE.split("\n")) {
            want.add(line.trim());
        }
        Set<String> got = new TreeSet<>();
        for (Method method : Marginnote.class.getDeclaredMethods()) {
            if (Modifier.isPublic(method.getModifiers())) {
                Check.due(false, Modifier.isStatic(method.getModifiers()));
                StringBuilder line = new StringBuilder(method.getReturnType() + " " + method.getName() + "(");
                for (Class<?> type : method.getParameterTypes()) {
                    line.append(line.toString().endsWith("(") ? "" : ", ").append(type);
                }
                got.add(line.append(")").toString());
            }
        }
        Check.due(want.toString(), got.toString());
        Check.due(Modifier.PUBLIC | Modifier.FINAL, Marginnote.class.getModifiers());
        Constructor<?>[] constructors = Marginnote.class.getDeclaredConstructors();
        Check.due(1, constructors.length);
        Check.due(0, constructors[0].getParameterCount());
        Check.due(Modifier.PUBLIC, constructors[0].getModifiers());
    }

    private static void members() {
        Set<String> publicNames = new TreeSet<>();
        for (Method method : Marginnote.class.getDeclaredMethods()) {
            if (Modifier.isPublic(method.getModifiers())) {
                publicNames.add(method.getName());
            } else {
                Check.due(true, Modifier.isPrivate(method.getModifiers()));
            }
        }
        for (Field field : Marginnote.class.getDeclaredFields()) {
            int modifiers = field.getModifiers();
            Check.due(true, Modifier.isPrivate(modifiers) || Modifier.isPublic(modifiers) && Modifier.isStatic(modifiers));
        }
        Check.due(true, Marginnote.class.getDeclaredClasses().length < 12);
        checkClass(Marginnote.class, publicNames);
        for (Class<?> inside : Marginnote.class.getDeclaredClasses()) {
            Check.due(true, Modifier.isStatic(inside.getModifiers()));
            Check.due(true, Modifier.isPrivate(inside.getModifiers()));
            checkClass(inside, publicNames);
        }
    }

    private static void checkClass(Class<?> type, Set<String> publicNames) {
        int fields = 0;
        for (Field field : type.getDeclaredFields()) {
            if (Modifier.isStatic(field.getModifiers())) {
                Check.due(true, Modifier.isFinal(field.getModifiers()));
            } else {
                fields++;
            }
        }
        Check.due(true, fields <= 20);
        for (Method method : type.getDeclaredMethods()) {
            Check.due(true, method.getParameterCount() <= 7);
            if (!Modifier.isPublic(method.getModifiers()) && publicNames.contains(method.getName())) {
                Check.fail(type.getName() + " has a method named as one of the face: " + method.getName());
            }
        }
    }

    private static void tokens(String source) {
        for (int i = 0; i < source.length(); i++) {
            char sign = source.charAt(i);
            if (sign != '\n' && (sign < ' ' || sign > '~')) {
                Check.fail("sign " + (int) sign + " at " + i);
            }
        }
        String code = source.replaceAll("(?s)/\\*.*?\\*/", " ").replaceAll("//[^\n]*", " ");
        for (String forbidden : FORBIDDEN) {
            Matcher matcher = Pattern.compile(forbidden).matcher(code);
            if (matcher.find()) {
                Check.fail("found " + matcher.group());
            }
        }
        Check.due(true, code.contains("public final class Marginnote"));
    }

    private static void throwsOnlyTheNamedOnes(String source) {
        Pattern form = Pattern.compile(
            "throw new (IndexOutOfBoundsException|IllegalArgumentException|IllegalStateException)\\(\"[a-z ]+\"\\);");
        Matcher all = Pattern.compile("throw .*").matcher(source);
        int count = 0;
        while (all.find()) {
            count++;
            Check.due(true, form.matcher(all.group()).matches());
        }
        Check.due(true, count > 10);
    }

    /** Calls that are no recursion go at most eight deep, and there is none that is; methods are told by their names alone. */
    private static void depthsOfCalls(String source) {
        Map<String, Set<String>> calls = new TreeMap<>();
        String name = "";
        for (String text : source.replaceAll("//[^\n]*", "").split("\n")) {
            Matcher head = Pattern.compile("^ {4,8}(?! )[^=;]*?(\\w+)\\([^=;]*\\{$").matcher(text);
            boolean isHead = head.matches() && !text.contains(" class ") && !text.trim().matches("(if|for|while|switch|}) .*");
            if (isHead) {
                name = head.group(1);
                calls.putIfAbsent(name, new TreeSet<>());
            } else if (!name.isEmpty()) {
                Matcher call = Pattern.compile("(\\w+)\\(").matcher(text);
                while (call.find()) {
                    calls.get(name).add(call.group(1));
                }
            }
        }
        Check.due(true, calls.size() > 100);
        for (String first : calls.keySet()) {
            if (depth(first, calls, 0) > 8) {
                Check.fail(first + " leads to calls that go too deep");
            }
        }
    }

    private static int depth(String name, Map<String, Set<String>> calls, int above) {
        int deepest = above + 1;
        if (above > 8) {
            return deepest;
        }
        for (String next : calls.get(name)) {
            if (calls.containsKey(next)) {
                deepest = Math.max(deepest, depth(next, calls, above + 1));
            }
        }
        return deepest;
    }

    /** Methods begin at one or two levels of indenting, and end with a brace at the same level. */
    private static void lengthsOfMethods(String source) {
        int start = -1;
        String end = "";
        int line = 0;
        for (String text : source.split("\n")) {
            line++;
            Matcher head = Pattern.compile("^( {4}| {8})(?! )[^=;]*\\(.*\\{$").matcher(text);
            if (start < 0 && head.matches() && !text.contains(" class ")) {
                start = line;
                end = head.group(1) + "}";
            } else if (start > 0 && text.equals(end)) {
                if (line - start > 60) {
                    Check.fail("the method at line " + start + " is too long");
                }
                start = -1;
            }
        }
        Check.due(true, start < 0);
    }
}
