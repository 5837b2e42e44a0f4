import java.lang.reflect.InvocationTargetException;
import java.lang.reflect.Method;
import java.lang.reflect.Modifier;
import java.util.ArrayDeque;
import java.util.ArrayList;
import java.util.Arrays;
import java.util.Comparator;
import java.util.HashMap;
import java.util.List;
import java.util.Map;
import java.util.Random;

/** Runs of calls by fixed seeds: each answer or exception of the program must be the oracle's. */
public final class RandomRunsTest {
    private static final int CALLS = 512;
    private static final String WRITING = "type type type type type split erase moveTo moveTo extend extend mark mark "
        + "comment setKind nest propose decide decide allow undo undo redo redo bringBack name";
    private static final String MOVING = "send deliver deliver save crash";
    private static final String ASKING = "differ length shown element elementAnew letter proposed open isMarked covered "
        + "blocks kind depth level cursor tail graves buried acts has actAt act isUndone";

    private final Random random;
    private final Map<String, Method> programCalls;
    private final Map<String, Method> oracleCalls;
    private final Marginnote program = new Marginnote();
    private final Oracle oracle = new Oracle();
    private final List<String> told = new ArrayList<>();
    private final String[] writing;
    private final int writingShare;
    private final int movingShare;
    private final int sites;
    // Calls of a round of messages that are still to come: a name and its arguments each.
    private final ArrayDeque<Object[]> planned = new ArrayDeque<>();

    private RandomRunsTest(long seed, Map<String, Method> programCalls, Map<String, Method> oracleCalls) {
        random = new Random(seed);
        this.programCalls = programCalls;
        this.oracleCalls = oracleCalls;
        writingShare = 20 + random.nextInt(60);
        movingShare = 5 + random.nextInt(25);
        sites = 4 - (int) Math.sqrt(random.nextInt(15));
        // Each run has some kinds of calls far more often, so that different things come together.
        List<String> favoured = new ArrayList<>(List.of(WRITING.split(" ")));
        for (int i = 0; i < 3; i++) {
            String one = favoured.get(random.nextInt(favoured.size()));
            for (int k = 0; k < 4; k++) {
                favoured.add(one);
            }
        }
        writing = favoured.toArray(new String[0]);
    }

    public static void main(String[] args) throws Exception {
        int runs = args.length > 0 ? Integer.parseInt(args[0]) : 400;
        int first = args.length > 1 ? Integer.parseInt(args[1]) : 0;
        Map<String, Method> programCalls = calls(Marginnote.class);
        Map<String, Method> oracleCalls = calls(Oracle.class);
        Check.due(true, programCalls.keySet().equals(oracleCalls.keySet()));
        int answers = 0;
        for (int seed = first; seed < first + runs; seed++) {
            answers += new RandomRunsTest(seed, programCalls, oracleCalls).run(seed);
        }
        System.out.println(runs + " runs, " + answers + " answers that were no exceptions");
        Check.due(true, answers > runs * CALLS / 3);
        Check.end();
    }

    private static Map<String, Method> calls(Class<?> type) {
        Map<String, Method> calls = new HashMap<>();
        for (Method method : type.getDeclaredMethods()) {
            if (!Modifier.isPrivate(method.getModifiers()) && !Modifier.isStatic(method.getModifiers())) {
                method.setAccessible(true);
                calls.put(method.getName(), method);
            }
        }
        return calls;
    }

    private int run(long seed) throws Exception {
        int answers = 0;
        for (int call = 0; call < CALLS; call++) {
            if (planned.isEmpty() && random.nextInt(150) == 0) {
                planRound();
            }
            Object[] next = planned.poll();
            String name = next == null ? choose(call) : (String) next[0];
            Object[] arguments = next == null ? arguments(name) : Arrays.copyOfRange(next, 1, next.length);
            told.add(name + List.of(arguments));
            Object want = answer(oracleCalls.get(name), oracle, arguments);
            Object got = answer(programCalls.get(name), program, arguments);
            if (!want.equals(got)) {
                Check.fail("seed " + seed + ", call " + call + ": " + told.get(call) + " answered " + got
                    + ", due is " + want);
                System.out.println(told);
                return answers;
            }
            if (!(want instanceof Class)) {
                answers++;
            }
        }
        return answers;
    }

    /** Everybody hears of everything: without it hardly anything would ever be buried. */
    private void planRound() {
        int message = sent();
        int steps = 4 + random.nextInt(9);
        planned.add(new Object[] {"save", 0});
        for (int step = 0; step < steps; step++) {
            int to = (step + 1) % 4;
            planned.add(new Object[] {"send", step % 4, to});
            planned.add(new Object[] {"deliver", message + step});
            planned.add(new Object[] {"save", to});
        }
        for (int site = 0; site < 4; site++) {
            planned.add(new Object[] {"buried", site});
        }
    }

    private int sent() {
        int count = 0;
        for (String call : told) {
            count += call.startsWith("send[") ? 1 : 0;
        }
        return count;
    }

    private static Object answer(Method method, Object on, Object[] arguments) throws Exception {
        try {
            return method.invoke(on, arguments);
        } catch (InvocationTargetException e) {
            return e.getCause().getClass();
        }
    }

    private String choose(int call) {
        int dice = random.nextInt(100);
        boolean late = call > CALLS * 3 / 4;
        if (dice < (late ? writingShare / 4 : writingShare)) {
            return writing[random.nextInt(writing.length)];
        }
        String[] others = (dice < writingShare + movingShare ? MOVING : ASKING).split(" ");
        return others[random.nextInt(others.length)];
    }

    private Object[] arguments(String name) {
        int site = site();
        switch (name) {
            case "type":
                return new Object[] {site, random.nextInt(40) == 0 ? '{' : random.nextInt(9) == 0 ? ' ' : (char) ('a' + random.nextInt(26))};
            case "moveTo":
            case "extend":
                return new Object[] {site, upTo(inRange(site) ? oracle.length(site) : 3)};
            case "mark":
                return new Object[] {site, upTo(1), random.nextInt(3) > 0};
            case "setKind":
                return new Object[] {site, block(site), upTo(3)};
            case "nest":
                return new Object[] {site, block(site), random.nextInt(6) == 0 ? -1 : block(site)};
            case "propose":
                return new Object[] {site, random.nextInt(3) == 0};
            case "decide":
                return new Object[] {site, proposal(site), random.nextBoolean()};
            case "allow":
                return new Object[] {block(0), random.nextInt(20) == 0 ? upTo(3) : 1 + random.nextInt(3), upTo(2)};
            case "send":
                return new Object[] {site, random.nextInt(20) == 0 ? site() : other(site)};
            case "deliver":
                return new Object[] {message()};
            case "crash":
                return new Object[] {site, inRange(site) ? few(site) : 1};
            case "bringBack":
                return new Object[] {site, upTo(4)};
            case "differ":
                return new Object[] {upTo(4), upTo(4)};
            case "element":
            case "elementAnew":
            case "letter":
            case "proposed":
                return new Object[] {site, upTo(inRange(site) ? oracle.length(site) - 1 : 3)};
            case "isMarked":
                return new Object[] {site, upTo(inRange(site) ? oracle.length(site) - 1 : 3), upTo(1)};
            case "covered":
                return new Object[] {site, ofKind(Marginnote.COMMENT)};
            case "isUndone":
                return new Object[] {site, upTo(oracle.acts() - 1)};
            case "kind":
            case "depth":
            case "level":
                return new Object[] {site, block(site)};
            case "acts":
                return new Object[0];
            case "actAt":
                return new Object[] {site, upTo(inRange(site) ? oracle.has(site) - 1 : 3)};
            case "act":
                return new Object[] {upTo(oracle.acts() - 1)};
            default:
                return new Object[] {site};
        }
    }

    private static boolean inRange(int site) {
        return site >= 0 && site < 4;
    }

    private int site() {
        return random.nextInt(60) == 0 ? random.nextInt(8) - 2 : random.nextInt(sites);
    }

    private int other(int site) {
        int other = random.nextInt(3);
        return other >= site ? other + 1 : other;
    }

    /** From 0 to the highest one, seldom one beside these. */
    private int upTo(int highest) {
        int dice = random.nextInt(50);
        if (dice == 0 || highest < 0) {
            return -1 - random.nextInt(2);
        }
        return dice == 1 ? highest + 1 : random.nextInt(highest + 1);
    }

    private int block(int site) {
        return upTo(inRange(site) ? oracle.blocks(site) - 1 : 1);
    }

    private int few(int site) {
        int few = 0;
        while (random.nextInt(3) > 0 && few < oracle.has(site)) {
            few++;
        }
        return few;
    }

    private int message() {
        int count = sent();
        return random.nextBoolean() ? count - 1 : upTo(count);
    }

    private int ofKind(int kind) {
        List<Integer> found = new ArrayList<>();
        for (int act = 0; act < oracle.acts(); act++) {
            if (oracle.act(act) % 100 == kind) {
                found.add(act);
            }
        }
        return found.isEmpty() || random.nextInt(8) == 0 ? upTo(oracle.acts() - 1) : found.get(random.nextInt(found.size()));
    }

    private int proposal(int site) {
        if (!inRange(site) || random.nextInt(6) == 0) {
            return upTo(oracle.acts() - 1);
        }
        List<Integer> found = new ArrayList<>();
        for (int place = 0; place < oracle.has(site); place++) {
            int act = oracle.actAt(site, place);
            int kind = oracle.act(act) % 100;
            if (kind <= Marginnote.REMOVE) {
                found.add(act);
            }
        }
        found.sort(Comparator.naturalOrder());
        return found.isEmpty() ? -1 : found.get(random.nextInt(found.size()));
    }
}
