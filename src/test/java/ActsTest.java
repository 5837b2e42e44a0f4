/** Promises 40 to 44, and the constants: what is asked about acts. */
public final class ActsTest {
    public static void main(String[] args) {
        constants();
        acts();
        has();
        actAt();
        act();
        kindsOfActs();
        isUndone();
        Check.end();
    }

    private static void constants() {
        Check.due(-1, Marginnote.NONE);
        int[] kinds = {Marginnote.TYPE, Marginnote.SPLIT, Marginnote.REMOVE, Marginnote.RESTORE, Marginnote.MARK,
            Marginnote.KIND, Marginnote.NEST, Marginnote.COMMENT, Marginnote.ACCEPT, Marginnote.REFUSE,
            Marginnote.ALLOW, Marginnote.UNDO, Marginnote.REDO};
        for (int kind = 0; kind < kinds.length; kind++) {
            Check.due(kind, kinds[kind]);
        }
        Check.due(0, Marginnote.BOLD);
        Check.due(1, Marginnote.LINK);
        Check.due(0, Marginnote.WRITE);
        Check.due(1, Marginnote.SUGGEST);
        Check.due(2, Marginnote.READ);
    }

    private static void acts() {
        Marginnote room = new Marginnote();
        Check.due(0, room.acts());
        room.type(0, 'a');
        room.type(3, 'b');
        Check.due(2, room.acts());
        // What is no act does not count; what is lost counts still.
        room.moveTo(0, 0);
        room.propose(0, true);
        room.save(0);
        room.name(0);
        Check.pass(room, 0, 3);
        Check.due(2, room.acts());
        room.crash(3, 2);
        Check.due(2, room.acts());
        room.undo(0);
        Check.due(3, room.acts());
    }

    private static void has() {
        Marginnote room = Check.roomWith("abc");
        Check.due(3, room.has(0));
        Check.due(0, room.has(1));
        room.type(1, 'x');
        Check.due(1, room.has(1));
        Check.pass(room, 0, 1);
        Check.due(4, room.has(1));
        room.crash(1, 2);
        Check.due(2, room.has(1));
        room.undo(0);
        Check.due(4, room.has(0));
        Check.outOfBounds(() -> room.has(-1));
        Check.outOfBounds(() -> room.has(4));
    }

    private static void actAt() {
        Marginnote room = Check.roomWith("ab");
        room.type(2, 'x');
        room.type(1, 'y');
        Check.pass(room, 2, 1);
        Check.pass(room, 0, 1);
        int[] order = {0, 3, 2, 1};
        for (int place = 0; place < order.length; place++) {
            Check.due(order[place], room.actAt(1, place));
        }
        room.crash(1, 1);
        Check.due(2, room.actAt(1, 2));
        Check.outOfBounds(() -> room.actAt(1, 3));
        Check.outOfBounds(() -> room.actAt(1, -1));
        Check.outOfBounds(() -> room.actAt(3, 0));
        Check.outOfBounds(() -> room.actAt(-1, 0));
        Check.outOfBounds(() -> room.actAt(4, 0));
    }

    private static void act() {
        Marginnote room = Check.roomWith("ab");
        room.split(3);
        Check.due(1000, room.act(0));
        Check.due(2000, room.act(1));
        Check.due(1301, room.act(2));
        Check.outOfBounds(() -> room.act(3));
        Check.outOfBounds(() -> room.act(-1));
        // Also of an act that nobody has any more.
        room.crash(3, 1);
        Check.due(1301, room.act(2));
    }

    private static void kindsOfActs() {
        Marginnote room = Check.roomWith("a/b");
        room.name(0);
        room.erase(0);
        room.bringBack(0, 0);
        Check.select(room, 0, 0, 2);
        room.mark(0, Marginnote.BOLD, true);
        room.setKind(0, 0, 1);
        room.nest(0, 1, 0);
        room.comment(0);
        room.propose(0, true);
        room.moveTo(0, 0);
        int first = room.type(0, 'x');
        int second = room.type(0, 'y');
        room.decide(0, first, true);
        room.decide(0, second, false);
        room.allow(0, 1, Marginnote.READ);
        room.undo(0);
        room.redo(0);
        int[] kinds = {0, 1, 0, 2, 3, 4, 5, 6, 7, 0, 0, 8, 9, 10, 11, 12};
        Check.due(kinds.length, room.acts());
        for (int act = 0; act < kinds.length; act++) {
            Check.due(1000 * (act + 1) + kinds[act], room.act(act));
        }
    }

    private static void isUndone() {
        Marginnote room = Check.roomWith("ab");
        room.undo(0);
        Check.due(true, room.isUndone(0, 1));
        Check.due(false, room.isUndone(0, 0));
        Check.due(false, room.isUndone(0, 2));
        room.redo(0);
        Check.due(false, room.isUndone(0, 1));
        room.undo(0);
        Check.due(true, room.isUndone(0, 1));
        // By what the site has: the UNDO did not come there.
        Marginnote other = Check.roomWith("ab");
        Check.pass(other, 0, 1);
        other.undo(0);
        Check.due(true, other.isUndone(0, 1));
        Check.due(false, other.isUndone(1, 1));
        Check.pass(other, 0, 1);
        Check.due(true, other.isUndone(1, 1));
        Check.outOfBounds(() -> other.isUndone(0, 3));
        Check.outOfBounds(() -> other.isUndone(0, -1));
        Check.outOfBounds(() -> other.isUndone(2, 0));
        Check.outOfBounds(() -> other.isUndone(-1, 0));
        Check.outOfBounds(() -> other.isUndone(4, 0));
    }
}
