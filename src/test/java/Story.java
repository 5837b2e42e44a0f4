import java.lang.reflect.InvocationTargetException;
import java.lang.reflect.Method;
import java.lang.reflect.Modifier;
import java.util.ArrayList;
import java.util.HashMap;
import java.util.List;
import java.util.Map;
import java.util.TreeSet;

/**
 * A test of one sentence: calls on a new room, written as words ("type 0 a; moveTo 0 0"), with the
 * answers that are due. A call that is refused must leave the room as it was: it is compared with
 * twins that were not asked, by all questions there are, and by what they answer to further calls.
 */
final class Story {
    static final Class<?> BOUNDS = IndexOutOfBoundsException.class;
    static final Class<?> ARGUMENT = IllegalArgumentException.class;
    static final Class<?> STATE = IllegalStateException.class;

    private static final int MOST_CALLS = 512;
    private static final Map<String, Method> METHODS = methods();
    private static final Map<String, Integer> CONSTANTS = constants();
    private static final TreeSet<String> SENTENCES = new TreeSet<>();

    private record Call(String name, Object[] arguments, boolean isRefused) {
        @Override
        public String toString() {
            return name + List.of(arguments);
        }
    }

    private final String sentence;
    private final Marginnote room = new Marginnote();
    private final List<Call> past = new ArrayList<>();

    private Story(String sentence) {
        this.sentence = sentence;
    }

    /** A new room, for a sentence of the document (or what is told of it there, in its words). */
    static Story of(String sentence) {
        SENTENCES.add(sentence);
        return new Story(sentence);
    }

    static void end() {
        System.out.println(SENTENCES.size() + " sentences");
        Check.end();
    }

    // ---- what a story tells

    /** Calls with a semicolon between them, none of which throws. */
    Story does(String calls) {
        for (String words : calls.split(";")) {
            if (!words.isBlank()) {
                perform(words.trim().split(" "));
            }
        }
        return this;
    }

    Story says(String call, int want) {
        Object got = ask(call);
        due(call, want, got instanceof Character ? (Integer) (int) (Character) got : got);
        return this;
    }

    Story says(String call, boolean want) {
        due(call, want, ask(call));
        return this;
    }

    Story says(String call, char want) {
        due(call, want, ask(call));
        return this;
    }

    /** The seen elements' letters; a plus behind one tells that it is PROPOSED, a minus that it is proposed to be removed. */
    Story reads(int site, String want) {
        StringBuilder text = new StringBuilder();
        int length = (Integer) ask("length " + site);
        for (int place = 0; place < length; place++) {
            text.append(ask("letter " + site + " " + place));
            int proposed = (Integer) ask("proposed " + site + " " + place);
            text.append((proposed & 1) != 0 ? "+" : "").append((proposed & 2) != 0 ? "-" : "");
        }
        due("the text of site " + site, want, text.toString());
        return this;
    }

    /** A sign for each seen element: x if it has the mark, a point if not. */
    Story marks(int site, String mark, String want) {
        StringBuilder text = new StringBuilder();
        int length = (Integer) ask("length " + site);
        for (int place = 0; place < length; place++) {
            text.append((Boolean) ask("isMarked " + site + " " + place + " " + mark) ? 'x' : '.');
        }
        due(mark + " at site " + site, want, text.toString());
        return this;
    }

    /** The calls throw this very class, and each of them changes nothing. */
    Story refuses(Class<?> want, String... calls) {
        for (String words : calls) {
            Call call = call(words.trim().split(" "), true);
            due(words, want, answer(room, call));
            List<Call> with = new ArrayList<>(past);
            with.add(call);
            compareTwins(words, with);
            past.add(call);
            checkCalls(past);
        }
        return this;
    }

    private void due(String what, Object want, Object got) {
        if (want.equals(got)) {
            Check.due(true, true);
        } else {
            Check.fail(sentence + ": " + what + " is " + got + ", due is " + want);
        }
    }

    // ---- calls by their words

    private void perform(String[] words) {
        switch (words[0]) {
            case "write":
                for (char sign : words[2].toCharArray()) {
                    done(sign == '/' ? "split " + words[1] : "type " + words[1] + " " + sign);
                }
                break;
            case "select":
                done("moveTo " + words[1] + " " + words[2]);
                done("extend " + words[1] + " " + words[3]);
                break;
            case "pass":
                done("deliver " + done("send " + words[1] + " " + words[2]));
                break;
            case "times":
                for (int i = 0; i < Integer.parseInt(words[1]); i++) {
                    done(String.join(" ", List.of(words).subList(2, words.length)));
                }
                break;
            default:
                done(String.join(" ", words));
                break;
        }
    }

    private Object done(String words) {
        Object answer = ask(words);
        if (answer instanceof Class) {
            Check.fail(sentence + ": " + words + " threw " + answer);
        }
        return answer;
    }

    private Object ask(String words) {
        Call call = call(words.split(" "), false);
        past.add(call);
        checkCalls(past);
        return answer(room, call);
    }

    private static Call call(String[] words, boolean isRefused) {
        Method method = METHODS.get(words[0]);
        Class<?>[] types = method.getParameterTypes();
        if (types.length != words.length - 1) {
            throw new IllegalStateException("a call with other arguments: " + String.join(" ", words));
        }
        Object[] arguments = new Object[types.length];
        for (int i = 0; i < types.length; i++) {
            arguments[i] = value(types[i], words[i + 1]);
        }
        return new Call(words[0], arguments, isRefused);
    }

    /** Signs that are no words are written by their numbers (#32), or as _ for a space. */
    private static Object value(Class<?> type, String word) {
        if (type == boolean.class) {
            return word.equals("on") || word.equals("yes");
        }
        if (type == char.class) {
            return word.equals("_") ? ' ' : word.length() > 1 ? (char) Integer.parseInt(word.substring(1)) : word.charAt(0);
        }
        return CONSTANTS.containsKey(word) ? CONSTANTS.get(word) : (Integer) Integer.parseInt(word);
    }

    /** The answer, or the class of what was thrown. */
    private static Object answer(Marginnote room, Call call) {
        try {
            return METHODS.get(call.name).invoke(room, call.arguments);
        } catch (InvocationTargetException e) {
            return e.getCause().getClass();
        } catch (IllegalAccessException e) {
            throw new IllegalStateException(e);
        }
    }

    private void checkCalls(List<Call> calls) {
        if (calls.size() > MOST_CALLS) {
            throw new IllegalStateException("more calls than an object promises: " + sentence);
        }
    }

    private static Map<String, Method> methods() {
        Map<String, Method> methods = new HashMap<>();
        for (Method method : Marginnote.class.getDeclaredMethods()) {
            if (Modifier.isPublic(method.getModifiers())) {
                methods.put(method.getName(), method);
            }
        }
        return methods;
    }

    private static Map<String, Integer> constants() {
        Map<String, Integer> constants = new HashMap<>();
        constants.put("NONE", Marginnote.NONE);
        constants.put("BOLD", Marginnote.BOLD);
        constants.put("LINK", Marginnote.LINK);
        constants.put("WRITE", Marginnote.WRITE);
        constants.put("SUGGEST", Marginnote.SUGGEST);
        constants.put("READ", Marginnote.READ);
        constants.put("MIN", Integer.MIN_VALUE);
        constants.put("MAX", Integer.MAX_VALUE);
        return constants;
    }

    // ---- twins

    private void compareTwins(String refused, List<Call> with) {
        List<Call> without = new ArrayList<>();
        for (Call call : with) {
            if (!call.isRefused) {
                without.add(call);
            }
        }
        compareAnswers(refused, with, without, List.of(), questions(after(without)));
        List<Call> further = further(after(without));
        List<Call> longer = new ArrayList<>(without);
        longer.addAll(further);
        compareAnswers(refused, with, without, further, questions(after(longer)));
    }

    private static Marginnote after(List<Call> calls) {
        Marginnote twin = new Marginnote();
        for (Call call : calls) {
            answer(twin, call);
        }
        return twin;
    }

    /** As many questions as go into one room's calls, then on with new rooms. */
    private void compareAnswers(String refused, List<Call> with, List<Call> without, List<Call> further, List<Call> questions) {
        int share = MOST_CALLS - with.size() - further.size();
        if (share < 20) {
            throw new IllegalStateException("no calls left for questions: " + sentence);
        }
        for (int from = 0; from < questions.size(); from += share) {
            List<Call> asked = new ArrayList<>(further);
            asked.addAll(questions.subList(from, Math.min(from + share, questions.size())));
            Marginnote one = after(with);
            Marginnote other = after(without);
            for (Call call : asked) {
                Object want = answer(other, call);
                Object got = answer(one, call);
                if (!want.equals(got)) {
                    due(call + ", behind the refused " + refused, want, got);
                    return;
                }
            }
        }
        Check.due(true, true);
    }

    /** Calls whose answers, and what is asked behind them, tell of what no question asks for. */
    private static List<Call> further(Marginnote twin) {
        List<Call> calls = new ArrayList<>();
        int messages = (Integer) answerOr(twin, "send 0 1", 80);
        for (int message = 0; message <= messages; message++) {
            add(calls, "deliver " + message);
        }
        for (int site = 0; site < 4; site++) {
            int next = (site + 1) % 4;
            add(calls, "type " + site + " q", "extend " + site + " 0", "comment " + site, "erase " + site);
            add(calls, "propose " + site + " off", "split " + site, "undo " + site, "undo " + site, "redo " + site);
            add(calls, "crash " + site + " 1", "save " + site, "crash " + site + " 1", "name " + site);
            add(calls, "send " + site + " " + next, "deliver " + messages, "bringBack " + site + " 0", "differ 0 1");
        }
        return calls;
    }

    private static Object answerOr(Marginnote twin, String words, int instead) {
        Object answer = answer(twin, call(words.split(" "), false));
        return answer instanceof Class ? instead : answer;
    }

    private static void add(List<Call> calls, String... all) {
        for (String words : all) {
            calls.add(call(words.split(" "), false));
        }
    }

    private static List<Call> questions(Marginnote twin) {
        List<Call> calls = new ArrayList<>();
        int acts = twin.acts();
        add(calls, "acts");
        for (int act = 0; act < acts; act++) {
            add(calls, "act " + act);
        }
        for (int site = 0; site < 4; site++) {
            for (String name : List.of("length", "shown", "open", "blocks", "cursor", "tail", "graves", "buried", "has")) {
                add(calls, name + " " + site);
            }
            for (int act = 0; act < acts; act++) {
                String one = site + " " + act;
                add(calls, "actAt " + one, "covered " + one, "isUndone " + one);
            }
            int length = twin.length(site);
            for (int at = 0; at < length; at++) {
                String place = site + " " + at;
                add(calls, "element " + place, "elementAnew " + place, "letter " + place, "proposed " + place);
                add(calls, "isMarked " + place + " BOLD", "isMarked " + place + " LINK");
            }
            int blocks = twin.blocks(site);
            for (int at = 0; at < blocks; at++) {
                String block = site + " " + at;
                add(calls, "kind " + block, "depth " + block, "level " + block);
            }
        }
        return calls;
    }
}
