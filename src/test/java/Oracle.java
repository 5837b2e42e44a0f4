import java.util.ArrayList;
import java.util.Comparator;
import java.util.HashMap;
import java.util.HashSet;
import java.util.List;
import java.util.Map;
import java.util.Set;
import java.util.TreeSet;

/**
 * The document's words done slowly, with sets and lists and no document kept: every question does
 * all acts anew. It is here only so that random runs can be compared with the program.
 */
final class Oracle {
    private static final int NO_BLOCK = -2;

    private static final class Act {
        int number, site, count, kind;
        int element = -1, second = -1, block = -1, above = NO_BLOCK, named = -1, other = -1, value;
        boolean proposal, on;
    }

    private static final class Elem {
        final Act maker;
        String state;
        boolean removed;
        final Set<Integer> marks = new HashSet<>();
        final Set<Integer> comments = new HashSet<>();

        Elem(Act maker) {
            this.maker = maker;
        }

        boolean shows() {
            return state.equals("PLAIN") && !removed;
        }

        boolean seen() {
            return !state.equals("VOID") && !removed;
        }
    }

    private final class Doc {
        final List<Elem> row = new ArrayList<>();
        final Map<Integer, Integer> kinds = new HashMap<>();
        final Map<Integer, Integer> aboves = new HashMap<>();
        final Map<String, Integer> levels = new HashMap<>();
        final Map<Integer, String> removals = new HashMap<>();
        final Set<Integer> undone = new HashSet<>();

        Doc(Set<Integer> set) {
            List<Act> sorted = inOrder(set);
            for (Act a : sorted) {
                if (a.kind == Marginnote.UNDO) {
                    undone.add(a.named);
                } else if (a.kind == Marginnote.REDO) {
                    undone.remove(a.named);
                }
            }
            for (Act a : sorted) {
                doIt(a);
            }
        }

        int where(int number) {
            for (int i = 0; i < row.size(); i++) {
                if (row.get(i).maker.number == number) {
                    return i;
                }
            }
            return -1;
        }

        Elem elem(int number) {
            return row.get(where(number));
        }

        int blockOf(int number) {
            for (int i = where(number); i >= 0; i--) {
                Elem e = row.get(i);
                if (e.maker.kind == Marginnote.SPLIT && e.shows()) {
                    return e.maker.number;
                }
            }
            return -1;
        }

        int level(int site, int block) {
            return site == 0 ? Marginnote.WRITE : levels.getOrDefault(site + ":" + block, Marginnote.WRITE);
        }

        void doIt(Act a) {
            if (a.kind == Marginnote.TYPE || a.kind == Marginnote.SPLIT) {
                put(a);
                return;
            }
            if (undone.contains(a.number)) {
                return;
            }
            switch (a.kind) {
                case Marginnote.REMOVE -> {
                    Elem e = elem(a.element);
                    int level = level(a.site, blockOf(a.element));
                    if (level == Marginnote.READ) {
                        return;
                    }
                    if (level == Marginnote.WRITE && !a.proposal) {
                        e.removed = true;
                    } else if (e.state.equals("PROPOSED") && e.maker.site == a.site) {
                        e.removed = true;
                    } else {
                        removals.put(a.number, "undecided");
                    }
                }
                case Marginnote.RESTORE -> {
                    if (level(a.site, blockOf(a.element)) == Marginnote.WRITE) {
                        elem(a.element).removed = false;
                    }
                }
                case Marginnote.MARK -> {
                    for (int i = where(a.element); i <= where(a.second); i++) {
                        Elem e = row.get(i);
                        if (level(a.site, blockOf(e.maker.number)) == Marginnote.WRITE) {
                            if (a.on) {
                                e.marks.add(a.value);
                            } else {
                                e.marks.remove(a.value);
                            }
                        }
                    }
                }
                case Marginnote.COMMENT -> {
                    for (int i = where(a.element); i <= where(a.second); i++) {
                        row.get(i).comments.add(a.number);
                    }
                }
                case Marginnote.KIND -> {
                    if (level(a.site, a.block) == Marginnote.WRITE) {
                        kinds.put(a.block, a.value);
                    }
                }
                case Marginnote.NEST -> {
                    if (level(a.site, a.block) == Marginnote.WRITE && !upwards(a.above).contains(a.block)) {
                        aboves.put(a.block, a.above);
                    }
                }
                case Marginnote.ACCEPT, Marginnote.REFUSE -> decided(a);
                case Marginnote.ALLOW -> levels.put(a.other + ":" + a.block, a.value);
                default -> { }
            }
        }

        /** The block itself, what it is under, and so on. */
        List<Integer> upwards(int block) {
            List<Integer> way = new ArrayList<>();
            for (int at = block; at != NO_BLOCK; at = aboves.getOrDefault(at, NO_BLOCK)) {
                way.add(at);
            }
            return way;
        }

        void put(Act a) {
            int level = level(a.site, blockOf(a.element));
            Elem e = new Elem(a);
            e.state = undone.contains(a.number) || level == Marginnote.READ ? "VOID"
                : level == Marginnote.SUGGEST || a.proposal ? "PROPOSED" : "PLAIN";
            int place = where(a.element) + 1;
            Elem left = place > 0 ? row.get(place - 1) : null;
            Elem right = place < row.size() ? row.get(place) : null;
            if (left != null && left.marks.contains(Marginnote.BOLD)) {
                e.marks.add(Marginnote.BOLD);
            }
            if (left != null && right != null) {
                if (left.marks.contains(Marginnote.LINK) && right.marks.contains(Marginnote.LINK)) {
                    e.marks.add(Marginnote.LINK);
                }
                e.comments.addAll(left.comments);
                e.comments.retainAll(right.comments);
            }
            row.add(place, e);
        }

        boolean isOpen(int number) {
            Act a = acts.get(number);
            if (a.kind == Marginnote.TYPE || a.kind == Marginnote.SPLIT) {
                Elem e = elem(number);
                return e.state.equals("PROPOSED") && !e.removed;
            }
            return removals.containsKey(number) && elem(a.element).seen();
        }

        int elementOf(int number) {
            Act a = acts.get(number);
            return a.kind == Marginnote.REMOVE ? a.element : number;
        }

        void decided(Act a) {
            if (!isOpen(a.named) || level(a.site, blockOf(elementOf(a.named))) != Marginnote.WRITE) {
                return;
            }
            Elem e = elem(elementOf(a.named));
            boolean accepts = a.kind == Marginnote.ACCEPT;
            if (acts.get(a.named).kind == Marginnote.REMOVE) {
                removals.remove(a.named);
                if (accepts) {
                    e.removed = true;
                }
            } else {
                e.state = accepts ? "PLAIN" : "VOID";
            }
        }

        List<Elem> seen() {
            List<Elem> all = new ArrayList<>();
            for (Elem e : row) {
                if (e.seen()) {
                    all.add(e);
                }
            }
            return all;
        }

        Set<Integer> showing() {
            Set<Integer> all = new TreeSet<>();
            for (Elem e : row) {
                if (e.shows()) {
                    all.add(e.maker.number);
                }
            }
            return all;
        }

        Set<Integer> graves() {
            Set<Integer> all = new TreeSet<>();
            for (Elem e : row) {
                if (!e.seen()) {
                    all.add(e.maker.number);
                }
            }
            return all;
        }

        List<Integer> blocks() {
            List<Integer> all = new ArrayList<>();
            all.add(-1);
            for (Elem e : row) {
                if (e.shows() && e.maker.kind == Marginnote.SPLIT) {
                    all.add(e.maker.number);
                }
            }
            return all;
        }

        int placeBehind(int element) {
            int count = 0;
            for (int i = 0; i <= where(element); i++) {
                if (row.get(i).seen()) {
                    count++;
                }
            }
            return count;
        }
    }

    private static final class Site {
        int clock, cursor = -1, tail = -1;
        boolean proposing;
        final List<Integer> journal = new ArrayList<>();
        final Set<Integer> safe = new TreeSet<>();
        final List<Set<Integer>> known = fourSets();
    }

    private static final class Message {
        int to;
        Set<Integer> set;
        List<Set<Integer>> known = fourSets();
    }

    private final List<Act> acts = new ArrayList<>();
    private final List<Site> sites = new ArrayList<>();
    private final List<Message> messages = new ArrayList<>();
    private final List<Set<Integer>> versions = new ArrayList<>();

    Oracle() {
        for (int i = 0; i < 4; i++) {
            sites.add(new Site());
        }
    }

    private static List<Set<Integer>> fourSets() {
        List<Set<Integer>> sets = new ArrayList<>();
        for (int i = 0; i < 4; i++) {
            sets.add(new TreeSet<>());
        }
        return sets;
    }

    private List<Act> inOrder(Iterable<Integer> set) {
        List<Act> sorted = new ArrayList<>();
        for (int number : set) {
            sorted.add(acts.get(number));
        }
        sorted.sort(Comparator.<Act>comparingInt(a -> a.count).thenComparingInt(a -> a.site));
        return sorted;
    }

    private Site site(int site) {
        if (site < 0 || site > 3) {
            throw new IndexOutOfBoundsException();
        }
        return sites.get(site);
    }

    private Doc doc(int site) {
        return new Doc(new TreeSet<>(site(site).journal));
    }

    private void room(int many) {
        require(acts.size() + many <= 160);
    }

    private static void require(boolean holds) {
        if (!holds) {
            throw new IllegalStateException();
        }
    }

    private static void inside(int value, int low, int high) {
        if (value < low || value > high) {
            throw new IndexOutOfBoundsException();
        }
    }

    private static void argument(boolean holds) {
        if (!holds) {
            throw new IllegalArgumentException();
        }
    }

    private Act make(int site, int kind) {
        Site s = site(site);
        Act a = new Act();
        a.number = acts.size();
        a.site = site;
        a.kind = kind;
        a.count = s.clock + 1;
        s.clock = a.count;
        acts.add(a);
        s.journal.add(a.number);
        return a;
    }

    private int put(int site, int kind, char letter) {
        Site s = site(site);
        Doc d = doc(site);
        require(d.level(site, d.blockOf(s.cursor)) != Marginnote.READ);
        room(1);
        Act a = make(site, kind);
        a.element = s.cursor;
        a.value = letter;
        a.proposal = s.proposing;
        s.cursor = a.number;
        s.tail = a.number;
        return a.number;
    }

    int type(int site, char letter) {
        site(site);
        argument("abcdefghijklmnopqrstuvwxyz ".indexOf(letter) >= 0);
        return put(site, Marginnote.TYPE, letter);
    }

    int split(int site) {
        return put(site, Marginnote.SPLIT, '/');
    }

    private List<Elem> selection(int site) {
        Doc d = doc(site);
        int a = d.placeBehind(sites.get(site).cursor);
        int b = d.placeBehind(sites.get(site).tail);
        return d.seen().subList(Math.min(a, b), Math.max(a, b));
    }

    int erase(int site) {
        Site s = site(site);
        Doc d = doc(site);
        List<Elem> gone = selection(site);
        boolean selected = !gone.isEmpty();
        if (!selected) {
            int place = d.placeBehind(s.cursor);
            require(place > 0);
            gone = d.seen().subList(place - 1, place);
        }
        room(gone.size());
        for (Elem e : gone) {
            Act a = make(site, Marginnote.REMOVE);
            a.element = e.maker.number;
            a.proposal = s.proposing;
        }
        if (selected) {
            if (d.where(s.cursor) > d.where(s.tail)) {
                s.cursor = s.tail;
            } else {
                s.tail = s.cursor;
            }
        }
        return gone.size();
    }

    private int behind(int site, int place) {
        List<Elem> seen = doc(site).seen();
        inside(place, 0, seen.size());
        return place == 0 ? -1 : seen.get(place - 1).maker.number;
    }

    int moveTo(int site, int place) {
        Site s = site(site);
        int target = behind(site, place);
        int before = cursor(site);
        s.cursor = target;
        s.tail = target;
        return before;
    }

    int extend(int site, int place) {
        site(site).cursor = behind(site, place);
        return selection(site).size();
    }

    private Act onSelection(int site, int kind) {
        List<Elem> selected = selection(site);
        require(!selected.isEmpty());
        room(1);
        Act a = make(site, kind);
        a.element = selected.get(0).maker.number;
        a.second = selected.get(selected.size() - 1).maker.number;
        return a;
    }

    int mark(int site, int mark, boolean on) {
        site(site);
        argument(mark == 0 || mark == 1);
        Act a = onSelection(site, Marginnote.MARK);
        a.value = mark;
        a.on = on;
        return a.number;
    }

    int comment(int site) {
        site(site);
        int made = 0;
        for (Act a : acts) {
            made += a.kind == Marginnote.COMMENT ? 1 : 0;
        }
        require(made < 20);
        return onSelection(site, Marginnote.COMMENT).number;
    }

    private int block(Doc d, int place) {
        inside(place, 0, d.blocks().size() - 1);
        return d.blocks().get(place);
    }

    int setKind(int site, int block, int kind) {
        Doc d = doc(site);
        int number = block(d, block);
        argument(kind >= 0 && kind <= 3);
        require(d.level(site, number) == Marginnote.WRITE);
        room(1);
        Act a = make(site, Marginnote.KIND);
        a.block = number;
        a.value = kind;
        return a.number;
    }

    int nest(int site, int block, int under) {
        Doc d = doc(site);
        int number = block(d, block);
        int above = under == -1 ? NO_BLOCK : block(d, under);
        require(d.level(site, number) == Marginnote.WRITE);
        room(1);
        Act a = make(site, Marginnote.NEST);
        a.block = number;
        a.above = above;
        return a.number;
    }

    boolean propose(int site, boolean on) {
        boolean before = site(site).proposing;
        site(site).proposing = on;
        return before;
    }

    private void held(int site, int act) {
        if (!site(site).journal.contains(act)) {
            throw new IndexOutOfBoundsException();
        }
    }

    int decide(int site, int act, boolean accepts) {
        held(site, act);
        Doc d = doc(site);
        require(d.isOpen(act));
        require(d.level(site, d.blockOf(d.elementOf(act))) == Marginnote.WRITE);
        room(1);
        Act a = make(site, accepts ? Marginnote.ACCEPT : Marginnote.REFUSE);
        a.named = act;
        return a.number;
    }

    int allow(int block, int other, int level) {
        int number = block(doc(0), block);
        inside(other, 1, 3);
        argument(level >= 0 && level <= 2);
        room(1);
        Act a = make(0, Marginnote.ALLOW);
        a.block = number;
        a.other = other;
        a.value = level;
        return a.number;
    }

    int undo(int site) {
        Doc d = doc(site);
        Act last = null;
        for (Act a : inOrder(site(site).journal)) {
            if (a.site == site && a.kind <= Marginnote.COMMENT && !d.undone.contains(a.number)) {
                last = a;
            }
        }
        require(last != null);
        room(1);
        make(site, Marginnote.UNDO).named = last.number;
        return last.number;
    }

    int redo(int site) {
        Doc d = doc(site);
        Act last = null;
        boolean behind = false;
        for (Act a : inOrder(site(site).journal)) {
            if (a.site == site && a.kind == Marginnote.UNDO && d.undone.contains(a.named)) {
                last = a;
                behind = false;
            } else if (a.site == site && a.kind <= Marginnote.COMMENT) {
                behind = true;
            }
        }
        require(last != null && !behind);
        room(1);
        make(site, Marginnote.REDO).named = last.named;
        return last.named;
    }

    int send(int from, int to) {
        Site s = site(from);
        site(to);
        argument(from != to);
        require(messages.size() < 80);
        Message m = new Message();
        m.to = to;
        m.set = new TreeSet<>(s.journal);
        for (int i = 0; i < 4; i++) {
            m.known.get(i).addAll(knows(from, i));
        }
        messages.add(m);
        return messages.size() - 1;
    }

    private Set<Integer> knows(int site, int of) {
        Set<Integer> all = new TreeSet<>(sites.get(site).known.get(of));
        if (site == of) {
            all.addAll(sites.get(site).safe);
        }
        return all;
    }

    int deliver(int message) {
        inside(message, 0, messages.size() - 1);
        Message m = messages.get(message);
        Site s = site(m.to);
        int news = 0;
        for (Act a : inOrder(m.set)) {
            if (!s.journal.contains(a.number)) {
                s.journal.add(a.number);
                s.clock = Math.max(s.clock, a.count);
                news++;
            }
        }
        for (int i = 0; i < 4; i++) {
            s.known.get(i).addAll(m.known.get(i));
        }
        return news;
    }

    int save(int site) {
        Site s = site(site);
        int before = s.safe.size();
        s.safe.addAll(s.journal);
        return s.safe.size() - before;
    }

    int crash(int site, int many) {
        Site s = site(site);
        argument(many >= 0 && many <= s.journal.size() - s.safe.size());
        for (int i = 0; i < many; i++) {
            int lost = s.journal.remove(s.journal.size() - 1);
            s.cursor = s.cursor == lost ? -1 : s.cursor;
            s.tail = s.tail == lost ? -1 : s.tail;
        }
        return s.journal.size();
    }

    int name(int site) {
        Site s = site(site);
        require(versions.size() < 10);
        versions.add(new TreeSet<>(s.journal));
        return versions.size() - 1;
    }

    int bringBack(int site, int version) {
        Site s = site(site);
        inside(version, 0, versions.size() - 1);
        require(s.journal.containsAll(versions.get(version)));
        Doc d = doc(site);
        Set<Integer> then = new Doc(versions.get(version)).showing();
        Set<Integer> now = d.showing();
        List<int[]> plan = new ArrayList<>();
        for (Elem e : d.row) {
            int number = e.maker.number;
            if (now.contains(number) && !then.contains(number)) {
                plan.add(new int[] {Marginnote.REMOVE, number});
            } else if (then.contains(number) && !now.contains(number)) {
                plan.add(new int[] {Marginnote.RESTORE, number});
            }
        }
        room(plan.size());
        for (int[] step : plan) {
            make(site, step[0]).element = step[1];
        }
        return plan.size();
    }

    int differ(int version, int other) {
        inside(version, 0, versions.size() - 1);
        inside(other, 0, versions.size() - 1);
        Set<Integer> one = new Doc(versions.get(version)).showing();
        Set<Integer> two = new Doc(versions.get(other)).showing();
        Set<Integer> both = new TreeSet<>(one);
        both.retainAll(two);
        return one.size() + two.size() - 2 * both.size();
    }

    int length(int site) {
        return doc(site).seen().size();
    }

    int shown(int site) {
        return doc(site).showing().size();
    }

    private Elem at(Doc d, int place) {
        inside(place, 0, d.seen().size() - 1);
        return d.seen().get(place);
    }

    int element(int site, int place) {
        return at(doc(site), place).maker.number;
    }

    int elementAnew(int site, int place) {
        return element(site, place);
    }

    char letter(int site, int place) {
        return (char) at(doc(site), place).maker.value;
    }

    int proposed(int site, int place) {
        Doc d = doc(site);
        Elem e = at(d, place);
        int answer = e.state.equals("PROPOSED") ? 1 : 0;
        for (int removal : d.removals.keySet()) {
            if (acts.get(removal).element == e.maker.number) {
                return answer + 2;
            }
        }
        return answer;
    }

    int open(int site) {
        Doc d = doc(site);
        int count = 0;
        for (int act : site(site).journal) {
            count += d.isOpen(act) ? 1 : 0;
        }
        return count;
    }

    boolean isMarked(int site, int place, int mark) {
        Elem e = at(doc(site), place);
        argument(mark == 0 || mark == 1);
        return e.marks.contains(mark);
    }

    int covered(int site, int act) {
        held(site, act);
        if (acts.get(act).kind != Marginnote.COMMENT) {
            return -1;
        }
        int count = 0;
        for (Elem e : doc(site).seen()) {
            count += e.comments.contains(act) ? 1 : 0;
        }
        return count;
    }

    int blocks(int site) {
        return doc(site).blocks().size();
    }

    int kind(int site, int block) {
        Doc d = doc(site);
        return d.kinds.getOrDefault(block(d, block), 0);
    }

    int depth(int site, int block) {
        Doc d = doc(site);
        List<Integer> way = d.upwards(block(d, block));
        int count = 0;
        for (int above : way.subList(1, way.size())) {
            count += d.blocks().contains(above) ? 1 : 0;
        }
        return count;
    }

    int level(int site, int block) {
        Doc d = doc(site);
        return d.level(site, block(d, block));
    }

    int cursor(int site) {
        return doc(site).placeBehind(site(site).cursor);
    }

    int tail(int site) {
        return doc(site).placeBehind(site(site).tail);
    }

    int graves(int site) {
        return doc(site).graves().size();
    }

    int buried(int site) {
        Set<Integer> graves = doc(site).graves();
        Set<Integer> everywhere = new TreeSet<>(knows(site, 0));
        for (int i = 1; i < 4; i++) {
            everywhere.retainAll(knows(site, i));
        }
        graves.retainAll(new Doc(everywhere).graves());
        return graves.size();
    }

    int acts() {
        return acts.size();
    }

    int has(int site) {
        return site(site).journal.size();
    }

    int actAt(int site, int place) {
        inside(place, 0, has(site) - 1);
        return inOrder(site(site).journal).get(place).number;
    }

    int act(int act) {
        inside(act, 0, acts.size() - 1);
        Act a = acts.get(act);
        return 1000 * a.count + 100 * a.site + a.kind;
    }

    boolean isUndone(int site, int act) {
        held(site, act);
        return doc(site).undone.contains(act);
    }
}
