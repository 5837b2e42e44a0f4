/** Promises 1 to 15: a new object, and what the sites write. */
public final class WritingTest {
    public static void main(String[] args) {
        newObject();
        type();
        typeBehindGrave();
        typeByLevel();
        split();
        erase();
        eraseWithoutSelection();
        eraseProposes();
        moveTo();
        extend();
        mark();
        comment();
        setKind();
        nest();
        propose();
        decide();
        allow();
        undo();
        redo();
        noMoreThanAllActs();
        theLastBlock();
        Check.end();
    }

    private static void newObject() {
        Marginnote room = new Marginnote();
        Check.due(0, room.acts());
        for (int site = 0; site < 4; site++) {
            Check.due(0, room.has(site));
            Check.due(0, room.length(site));
            Check.due(0, room.cursor(site));
            Check.due(0, room.tail(site));
            Check.due(1, room.blocks(site));
            Check.due(0, room.kind(site, 0));
            Check.due(0, room.depth(site, 0));
            Check.due(Marginnote.WRITE, room.level(site, 0));
            Check.due(false, room.propose(site, false));
        }
        Check.outOfBounds(() -> room.deliver(0));
        Check.outOfBounds(() -> room.differ(0, 0));
        // Two objects share nothing.
        Marginnote other = new Marginnote();
        other.type(0, 'a');
        Check.due(0, room.acts());
    }

    private static void type() {
        Marginnote room = new Marginnote();
        Check.due(0, room.type(0, 'a'));
        Check.due(1, room.type(0, 'z'));
        Check.due(2, room.type(0, ' '));
        Check.due(3, room.type(3, 'q'));
        Check.due("az ", Check.text(room, 0));
        Check.due("q", Check.text(room, 3));
        room.moveTo(0, 1);
        Check.due(4, room.type(0, 'x'));
        Check.due("axz ", Check.text(room, 0));
        Check.due(2, room.cursor(0));
        Check.due(2, room.tail(0));
        // What is selected stays; the tail comes along.
        Check.select(room, 0, 0, 3);
        room.type(0, 'y');
        Check.due("axzy ", Check.text(room, 0));
        Check.due(4, room.tail(0));
        Check.outOfBounds(() -> room.type(-1, 'a'));
        Check.outOfBounds(() -> room.type(4, 'a'));
        Check.outOfBounds(() -> room.type(4, 'A'));
        Check.badArgument(() -> room.type(0, 'A'));
        Check.badArgument(() -> room.type(0, '`'));
        Check.badArgument(() -> room.type(0, '{'));
        Check.badArgument(() -> room.type(0, '/'));
        Check.badArgument(() -> room.type(0, (char) 0));
        Check.badArgument(() -> room.type(0, (char) 65535));
        Check.due(6, room.acts());
    }

    private static void typeBehindGrave() {
        // The cursor stays behind what was erased, so the next letter comes there too.
        Marginnote room = Check.roomWith("abc");
        room.moveTo(0, 2);
        room.erase(0);
        Check.due(1, room.cursor(0));
        room.type(0, 'x');
        Check.due("axc", Check.text(room, 0));
        room.undo(0);
        room.undo(0);
        Check.due("abc", Check.text(room, 0));
        room.redo(0);
        room.redo(0);
        // x is behind b in the row: with b back it shows there.
        room.moveTo(0, 0);
        room.type(0, 'y');
        Check.due("yaxc", Check.text(room, 0));
    }

    private static void typeByLevel() {
        Marginnote room = Check.roomWith("ab/c");
        room.allow(0, 1, Marginnote.READ);
        room.allow(1, 1, Marginnote.SUGGEST);
        Check.pass(room, 0, 1);
        Check.badState(() -> room.type(1, 'x'));
        Check.badState(() -> room.split(1));
        Check.badArgument(() -> room.type(1, 'X'));
        room.moveTo(1, 2);
        Check.badState(() -> room.type(1, 'x'));
        // Behind the break it is the break's block.
        room.moveTo(1, 3);
        Check.due(6, room.type(1, 'x'));
        Check.due("00010", Check.proposals(room, 1));
        room.split(1);
        Check.due("000110", Check.proposals(room, 1));
        Check.due(2, room.blocks(1));
        // It is the cursor's block that counts, not the tail's.
        room.moveTo(1, 4);
        room.extend(1, 1);
        Check.badState(() -> room.type(1, 'y'));
        Check.badState(() -> room.split(1));
        // The first block is level READ for the beginning too, even for one that proposes.
        room.moveTo(1, 0);
        room.propose(1, true);
        Check.badState(() -> room.type(1, 'x'));
        Check.due(8, room.acts());
    }

    private static void split() {
        Marginnote room = Check.roomWith("abc");
        room.moveTo(0, 1);
        Check.due(3, room.split(0));
        Check.due("a/bc", Check.text(room, 0));
        Check.due(2, room.cursor(0));
        Check.due(2, room.tail(0));
        Check.due(2, room.blocks(0));
        Check.due(4001, room.act(3));
        room.propose(0, true);
        room.split(0);
        Check.due("a//bc", Check.text(room, 0));
        Check.due(2, room.blocks(0));
        Check.due("00100", Check.proposals(room, 0));
        Check.outOfBounds(() -> room.split(-1));
        Check.outOfBounds(() -> room.split(4));
    }

    private static void erase() {
        Marginnote room = Check.roomWith("abcdef");
        Check.select(room, 0, 1, 4);
        Check.due(3, room.erase(0));
        Check.due("aef", Check.text(room, 0));
        Check.due(9, room.acts());
        Check.due(7002, room.act(6));
        Check.due(1, room.cursor(0));
        Check.due(1, room.tail(0));
        // The one farther on stands where the other one stands: behind a, not behind d.
        room.type(0, 'x');
        room.moveTo(0, 0);
        Check.due("axef", Check.text(room, 0));
        Check.due(4, room.element(0, 2));
        // Selected the other way round it is the tail that is farther on.
        Check.select(room, 0, 4, 2);
        Check.due(2, room.erase(0));
        Check.due("ax", Check.text(room, 0));
        Check.due(2, room.cursor(0));
        Check.due(2, room.tail(0));
        Check.due(11, room.undo(0));
        Check.due("axf", Check.text(room, 0));
        Check.due(2, room.tail(0));
        // In the order of the row: the first act is that of the first element.
        Marginnote order = Check.roomWith("ab");
        Check.select(order, 0, 2, 0);
        order.erase(0);
        Check.due(3, order.undo(0));
        Check.due("b", Check.text(order, 0));
        Check.outOfBounds(() -> room.erase(-1));
        Check.outOfBounds(() -> room.erase(4));
    }

    private static void eraseWithoutSelection() {
        Marginnote room = Check.roomWith("abc");
        Check.due(1, room.erase(0));
        Check.due("ab", Check.text(room, 0));
        // The cursor stands behind the grave of c still, so b is the last one seen.
        Check.due(1, room.erase(0));
        Check.due("a", Check.text(room, 0));
        room.moveTo(0, 0);
        Check.badState(() -> room.erase(0));
        Check.badState(() -> room.erase(1));
        Check.due(5, room.acts());
        // A selection of graves alone is empty, and then neither of both moves.
        Marginnote graves = Check.roomWith("abc");
        Check.select(graves, 0, 0, 2);
        graves.erase(0);
        graves.moveTo(0, 1);
        graves.erase(0);
        Check.due("", Check.text(graves, 0));
        graves.extend(0, 0);
        Check.badState(() -> graves.erase(0));
        graves.undo(0);
        Check.due("c", Check.text(graves, 0));
        Check.due(0, graves.cursor(0));
        Check.due(1, graves.tail(0));
    }

    private static void eraseProposes() {
        Marginnote room = Check.roomWith("abc");
        room.propose(0, true);
        Check.select(room, 0, 1, 3);
        Check.due(2, room.erase(0));
        Check.due("022", Check.proposals(room, 0));
        // There was a selection, so the cursor goes back although both are seen still.
        Check.due(1, room.cursor(0));
        Check.due(1, room.tail(0));
        // A new letter that is only proposed is taken back at once.
        room.type(0, 'x');
        Check.due("0122", Check.proposals(room, 0));
        room.erase(0);
        Check.due("022", Check.proposals(room, 0));
        Check.due(1, room.graves(0));
    }

    private static void moveTo() {
        Marginnote room = Check.roomWith("abc");
        Check.due(3, room.moveTo(0, 1));
        Check.due(1, room.cursor(0));
        Check.due(1, room.tail(0));
        Check.due(1, room.moveTo(0, 3));
        Check.due(3, room.moveTo(0, 0));
        Check.due(0, room.moveTo(0, 0));
        Check.outOfBounds(() -> room.moveTo(0, 4));
        Check.outOfBounds(() -> room.moveTo(0, -1));
        Check.outOfBounds(() -> room.moveTo(0, Integer.MIN_VALUE));
        Check.outOfBounds(() -> room.moveTo(0, Integer.MAX_VALUE));
        Check.outOfBounds(() -> room.moveTo(1, 1));
        Check.outOfBounds(() -> room.moveTo(-1, 0));
        Check.outOfBounds(() -> room.moveTo(4, 0));
        Check.due(3, room.acts());
        // Behind the last one of these, so ahead of graves that follow.
        room.moveTo(0, 2);
        room.erase(0);
        room.moveTo(0, 1);
        room.type(0, 'x');
        room.undo(0);
        room.undo(0);
        room.redo(0);
        room.redo(0);
        Check.due("axc", Check.text(room, 0));
        Check.select(room, 0, 1, 3);
        Check.due(3, room.moveTo(0, 2));
        Check.due(2, room.tail(0));
    }

    private static void extend() {
        Marginnote room = Check.roomWith("abc");
        Check.due(2, room.extend(0, 1));
        Check.due(1, room.cursor(0));
        Check.due(3, room.tail(0));
        Check.due(3, room.extend(0, 0));
        Check.due(0, room.extend(0, 3));
        room.moveTo(0, 1);
        Check.due(2, room.extend(0, 3));
        Check.due(1, room.tail(0));
        Check.outOfBounds(() -> room.extend(0, 4));
        Check.outOfBounds(() -> room.extend(0, -1));
        Check.outOfBounds(() -> room.extend(1, 1));
        Check.outOfBounds(() -> room.extend(-1, 0));
        Check.outOfBounds(() -> room.extend(4, 0));
        Check.due(3, room.cursor(0));
        Check.due(3, room.acts());
    }

    private static void mark() {
        Marginnote room = Check.roomWith("abcd");
        Check.select(room, 0, 1, 3);
        Check.due(4, room.mark(0, Marginnote.BOLD, true));
        Check.due("-++-", Check.marks(room, 0, Marginnote.BOLD));
        Check.due("----", Check.marks(room, 0, Marginnote.LINK));
        Check.due(5, room.mark(0, Marginnote.LINK, true));
        Check.due("-++-", Check.marks(room, 0, Marginnote.LINK));
        Check.select(room, 0, 4, 2);
        Check.due(6, room.mark(0, Marginnote.BOLD, false));
        Check.due("-+--", Check.marks(room, 0, Marginnote.BOLD));
        Check.due("-++-", Check.marks(room, 0, Marginnote.LINK));
        Check.due(5004, room.act(4));
        Check.due(2, room.cursor(0));
        Check.due(4, room.tail(0));
        Check.outOfBounds(() -> room.mark(-1, 2, true));
        Check.outOfBounds(() -> room.mark(4, 0, true));
        Check.badArgument(() -> room.mark(0, 2, true));
        Check.badArgument(() -> room.mark(0, -1, true));
        room.moveTo(0, 1);
        Check.badArgument(() -> room.mark(0, 2, true));
        Check.badState(() -> room.mark(0, 0, true));
        Check.due(7, room.acts());
    }

    private static void comment() {
        Marginnote room = Check.roomWith("abcd");
        Check.badState(() -> room.comment(0));
        Check.select(room, 0, 1, 3);
        Check.due(4, room.comment(0));
        Check.due(5007, room.act(4));
        Check.due(2, room.covered(0, 4));
        Check.select(room, 0, 4, 0);
        Check.due(5, room.comment(0));
        Check.due(4, room.covered(0, 5));
        Check.due(2, room.covered(0, 4));
        Check.outOfBounds(() -> room.comment(-1));
        Check.outOfBounds(() -> room.comment(4));
        // 20 by all sites together; undone and lost ones count, too.
        room.undo(0);
        Check.pass(room, 0, 1);
        Check.select(room, 1, 0, 1);
        for (int i = 0; i < 10; i++) {
            room.comment(1);
        }
        room.crash(1, 9);
        Check.select(room, 0, 0, 3);
        for (int i = 0; i < 8; i++) {
            room.comment(0);
        }
        Check.due(25, room.acts());
        Check.badState(() -> room.comment(0));
        Check.badState(() -> room.comment(1));
        Check.due(25, room.acts());
        Check.due(3, room.covered(0, 24));
        Check.due(0, room.covered(0, 5));
    }

    private static void setKind() {
        Marginnote room = Check.roomWith("a/b");
        Check.due(3, room.setKind(0, 1, 3));
        Check.due(3, room.kind(0, 1));
        Check.due(0, room.kind(0, 0));
        Check.due(4, room.setKind(0, 0, 1));
        Check.due(1, room.kind(0, 0));
        Check.due(5, room.setKind(0, 1, 0));
        Check.due(0, room.kind(0, 1));
        Check.due(4005, room.act(3));
        Check.outOfBounds(() -> room.setKind(-1, 0, 0));
        Check.outOfBounds(() -> room.setKind(4, 0, 0));
        Check.outOfBounds(() -> room.setKind(0, 2, 9));
        Check.outOfBounds(() -> room.setKind(0, -1, 0));
        Check.badArgument(() -> room.setKind(0, 0, 4));
        Check.badArgument(() -> room.setKind(0, 0, -1));
        room.allow(1, 1, Marginnote.SUGGEST);
        room.allow(0, 2, Marginnote.READ);
        Check.pass(room, 0, 1);
        Check.pass(room, 0, 2);
        Check.badState(() -> room.setKind(1, 1, 2));
        Check.badArgument(() -> room.setKind(1, 1, 4));
        Check.badState(() -> room.setKind(2, 0, 2));
        Check.due(8, room.setKind(1, 0, 2));
        Check.due(9, room.setKind(2, 1, 2));
    }

    private static void nest() {
        Marginnote room = Check.roomWith("a/b/c");
        Check.due(5, room.nest(0, 2, 1));
        Check.due(1, room.depth(0, 2));
        Check.due(6, room.nest(0, 1, 0));
        Check.due(2, room.depth(0, 2));
        Check.due(1, room.depth(0, 1));
        Check.due(0, room.depth(0, 0));
        Check.due(6006, room.act(5));
        // In a ring, or under itself: an act that does nothing.
        Check.due(7, room.nest(0, 0, 2));
        Check.due(8, room.nest(0, 1, 1));
        Check.due(0, room.depth(0, 0));
        Check.due(1, room.depth(0, 1));
        // None is not the first block.
        Check.due(9, room.nest(0, 1, Marginnote.NONE));
        Check.due(0, room.depth(0, 1));
        Check.due(1, room.depth(0, 2));
        // The first block can come under another one, too.
        Check.due(10, room.nest(0, 0, 2));
        Check.due(2, room.depth(0, 0));
        Check.outOfBounds(() -> room.nest(-1, 0, 0));
        Check.outOfBounds(() -> room.nest(4, 0, 0));
        Check.outOfBounds(() -> room.nest(0, 3, 0));
        Check.outOfBounds(() -> room.nest(0, -1, 0));
        Check.outOfBounds(() -> room.nest(0, 0, 3));
        Check.outOfBounds(() -> room.nest(0, 0, -2));
        room.allow(1, 1, Marginnote.SUGGEST);
        Check.pass(room, 0, 1);
        Check.badState(() -> room.nest(1, 1, 0));
        Check.outOfBounds(() -> room.nest(1, 1, 3));
        // The level in the block above does not matter.
        Check.due(12, room.nest(1, 2, Marginnote.NONE));
        Check.due(13, room.nest(1, 2, 1));
        Check.due(1, room.depth(1, 2));
    }

    private static void propose() {
        Marginnote room = new Marginnote();
        Check.due(false, room.propose(0, true));
        Check.due(true, room.propose(0, true));
        room.type(0, 'a');
        Check.due("1", Check.proposals(room, 0));
        Check.due(true, room.propose(0, false));
        Check.due(false, room.propose(0, false));
        room.type(0, 'b');
        room.type(1, 'c');
        Check.due("10", Check.proposals(room, 0));
        Check.due("0", Check.proposals(room, 1));
        Check.due(3, room.acts());
        // A crash does not change it.
        room.propose(1, true);
        room.crash(1, 1);
        Check.due(true, room.propose(1, true));
        Check.outOfBounds(() -> room.propose(-1, true));
        Check.outOfBounds(() -> room.propose(4, true));
    }

    private static void decide() {
        Marginnote room = Check.roomWith("ab");
        room.propose(0, true);
        room.type(0, 'c');
        room.type(0, 'd');
        Check.select(room, 0, 0, 2);
        room.erase(0);
        Check.due("2211", Check.proposals(room, 0));
        Check.due(6, room.decide(0, 2, true));
        Check.due(7008, room.act(6));
        Check.due("2201", Check.proposals(room, 0));
        Check.due(7, room.decide(0, 3, false));
        Check.due(8009, room.act(7));
        Check.due("220", Check.proposals(room, 0));
        Check.due(8, room.decide(0, 4, true));
        Check.due("bc", Check.text(room, 0));
        Check.due(9, room.decide(0, 5, false));
        Check.due("00", Check.proposals(room, 0));
        for (int act = 0; act < 10; act++) {
            int closed = act;
            Check.badState(() -> room.decide(0, closed, true));
        }
        Check.outOfBounds(() -> room.decide(0, 10, true));
        Check.outOfBounds(() -> room.decide(0, -1, true));
        Check.outOfBounds(() -> room.decide(1, 2, true));
        Check.outOfBounds(() -> room.decide(-1, 2, true));
        Check.outOfBounds(() -> room.decide(4, 2, true));
        // Only with the level WRITE where the element is.
        room.type(0, 'x');
        room.allow(0, 1, Marginnote.SUGGEST);
        Check.pass(room, 0, 1);
        Check.pass(room, 0, 2);
        Check.badState(() -> room.decide(1, 10, true));
        Check.due(12, room.decide(2, 10, true));
        Check.badState(() -> room.decide(2, 10, false));
    }

    private static void allow() {
        Marginnote room = Check.roomWith("a/b");
        Check.due(3, room.allow(1, 1, Marginnote.READ));
        Check.due(4010, room.act(3));
        Check.due(4, room.allow(0, 3, Marginnote.SUGGEST));
        for (int site = 1; site < 4; site++) {
            Check.pass(room, 0, site);
        }
        Check.due(Marginnote.READ, room.level(1, 1));
        Check.due(Marginnote.WRITE, room.level(1, 0));
        Check.due(Marginnote.WRITE, room.level(2, 1));
        Check.due(Marginnote.SUGGEST, room.level(3, 0));
        Check.due(Marginnote.WRITE, room.level(0, 1));
        room.allow(1, 1, Marginnote.WRITE);
        Check.due(Marginnote.READ, room.level(1, 1));
        Check.pass(room, 0, 1);
        Check.due(Marginnote.WRITE, room.level(1, 1));
        Check.outOfBounds(() -> room.allow(2, 1, 9));
        Check.outOfBounds(() -> room.allow(-1, 1, 0));
        Check.outOfBounds(() -> room.allow(0, 0, 0));
        Check.outOfBounds(() -> room.allow(0, 4, 9));
        Check.outOfBounds(() -> room.allow(0, -1, 0));
        Check.badArgument(() -> room.allow(0, 1, 3));
        Check.badArgument(() -> room.allow(0, 1, -1));
        // It can be the very first act.
        Marginnote first = new Marginnote();
        Check.due(0, first.allow(0, 1, Marginnote.READ));
        Check.pass(first, 0, 1);
        Check.due(Marginnote.READ, first.level(1, 0));
        // An ALLOW can't be undone.
        Check.due(2, room.undo(0));
    }

    private static void undo() {
        Marginnote room = Check.roomWith("ab");
        Check.due(1, room.undo(0));
        Check.due("a", Check.text(room, 0));
        Check.due(3011, room.act(2));
        Check.due(0, room.undo(0));
        Check.badState(() -> room.undo(0));
        Check.badState(() -> room.undo(1));
        Check.outOfBounds(() -> room.undo(-1));
        Check.outOfBounds(() -> room.undo(4));
        Check.due(4, room.acts());
        // Only one's own acts, and of the others only what comes behind in the row stays.
        Marginnote two = Check.roomWith("ab");
        Check.pass(two, 0, 1);
        two.moveTo(1, 1);
        two.type(1, 'x');
        Check.pass(two, 1, 0);
        Check.due(1, two.undo(0));
        Check.due(0, two.undo(0));
        Check.badState(() -> two.undo(0));
        Check.due("x", Check.text(two, 0));
        Check.due(2, two.undo(1));
        Check.due("ab", Check.text(two, 1));
        // A decision can't be undone, a mark and a kind can.
        Marginnote kinds = Check.roomWith("a");
        kinds.propose(0, true);
        kinds.type(0, 'b');
        kinds.decide(0, 1, true);
        Check.select(kinds, 0, 0, 2);
        kinds.mark(0, Marginnote.BOLD, true);
        kinds.comment(0);
        kinds.setKind(0, 0, 2);
        kinds.nest(0, 0, 0);
        Check.due(6, kinds.undo(0));
        Check.due(5, kinds.undo(0));
        Check.due(0, kinds.kind(0, 0));
        Check.due(4, kinds.undo(0));
        Check.due(0, kinds.covered(0, 4));
        Check.due(3, kinds.undo(0));
        Check.due("--", Check.marks(kinds, 0, Marginnote.BOLD));
        Check.due(1, kinds.undo(0));
        Check.due("a", Check.text(kinds, 0));
    }

    private static void redo() {
        Marginnote room = Check.roomWith("abc");
        Check.badState(() -> room.redo(0));
        room.undo(0);
        room.undo(0);
        Check.due(1, room.redo(0));
        Check.due(6012, room.act(5));
        Check.due("ab", Check.text(room, 0));
        Check.due(2, room.redo(0));
        Check.due("abc", Check.text(room, 0));
        Check.badState(() -> room.redo(0));
        // Undone and redone and undone again.
        Check.due(2, room.undo(0));
        Check.due(2, room.redo(0));
        Check.due(2, room.undo(0));
        Check.badState(() -> room.redo(1));
        Check.outOfBounds(() -> room.redo(-1));
        Check.outOfBounds(() -> room.redo(4));
        // What others wrote and decisions do not hinder it; an act of one's own does.
        Check.pass(room, 0, 1);
        room.type(1, 'x');
        Check.pass(room, 1, 0);
        room.allow(0, 1, Marginnote.WRITE);
        Check.due(2, room.redo(0));
        room.undo(0);
        room.setKind(0, 0, 1);
        Check.badState(() -> room.redo(0));
        // With that undone as well, only that is redone; the older one is behind it still.
        int kind = room.acts() - 1;
        Check.due(kind, room.undo(0));
        Check.due(kind, room.redo(0));
        Check.badState(() -> room.redo(0));
    }

    private static void noMoreThanAllActs() {
        Marginnote room = Check.roomWith("abcdef");
        for (int i = 0; i < 151; i++) {
            room.setKind(i % 4, 0, i % 3);
        }
        room.name(0);
        room.undo(0);
        room.propose(0, true);
        room.moveTo(0, 6);
        room.type(0, 'x');
        Check.due(159, room.acts());
        // Two more would be too many, then none of them is made.
        Check.select(room, 0, 0, 2);
        Check.badState(() -> room.erase(0));
        Check.due(0, room.tail(0));
        Check.due(2, room.cursor(0));
        Check.due(159, room.mark(0, 0, true));
        Check.badState(() -> room.mark(0, 0, true));
        Check.badArgument(() -> room.mark(0, 2, true));
        Check.badState(() -> room.comment(0));
        Check.badState(() -> room.type(0, 'a'));
        Check.badArgument(() -> room.type(0, 'A'));
        Check.badState(() -> room.split(0));
        Check.badState(() -> room.erase(0));
        Check.badState(() -> room.setKind(0, 0, 0));
        Check.badState(() -> room.nest(0, 0, Marginnote.NONE));
        Check.badState(() -> room.decide(0, 158, true));
        Check.badState(() -> room.allow(0, 1, 0));
        Check.badState(() -> room.undo(0));
        Check.badState(() -> room.redo(0));
        Check.due(160, room.acts());
        Check.due(2, room.cursor(0));
        Marginnote redo = Check.roomWith("a");
        for (int i = 0; i < 158; i++) {
            redo.setKind(0, 0, 0);
        }
        redo.undo(0);
        Check.badState(() -> redo.redo(0));
        Check.due(160, redo.acts());
        Check.due(true, redo.isUndone(0, 158));
        // Bringing back what needs no act is fine.
        Check.due(0, room.bringBack(0, 0));
    }

    private static void theLastBlock() {
        Marginnote room = new Marginnote();
        for (int i = 0; i < 159; i++) {
            room.split(1);
        }
        Check.due(159, room.split(1));
        Check.due(161, room.blocks(1));
        Check.due(Marginnote.WRITE, room.level(1, 160));
        Check.due(0, room.kind(1, 160));
        Check.due(0, room.depth(1, 160));
        Check.outOfBounds(() -> room.level(1, 161));
        Check.badState(() -> room.setKind(1, 160, 1));
        Check.badState(() -> room.nest(1, 160, 159));
        Check.badState(() -> room.type(1, 'a'));
        Check.due(159, room.elementAnew(1, 159));
        Check.due(160, Check.pass(room, 1, 0));
        Check.badState(() -> room.allow(160, 1, 0));
        Check.outOfBounds(() -> room.allow(161, 1, 0));
        // As long as there is room the last blocks are nested as any others.
        Marginnote deep = new Marginnote();
        for (int i = 0; i < 80; i++) {
            deep.split(0);
        }
        for (int block = 80; block > 0; block--) {
            deep.nest(0, block, block - 1);
        }
        Check.due(80, deep.depth(0, 80));
        Check.due(160, deep.acts());
    }
}
