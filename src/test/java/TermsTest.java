/** The terms: what is done by acts, in their order, with all as it is by then. */
public final class TermsTest {
    public static void main(String[] args) {
        orderOfActs();
        rowOfTwoSites();
        marksOfNewElements();
        commentsOfNewElements();
        marksByLevel();
        levelAtItsTurn();
        levelOfMergedBlocks();
        removeByLevel();
        removeOfOneselfProposed();
        openAgain();
        severalRemovals();
        decisionsThatComeLate();
        restoreByLevel();
        undoneForAllTheSet();
        lastUndoOrRedoCounts();
        nestTogether();
        kindAndNestByLevel();
        splitOfMarksAndBlocks();
        Check.end();
    }

    private static void orderOfActs() {
        // Counts first, then sites; numbers tell only who was first to make one.
        Marginnote room = new Marginnote();
        room.type(2, 'a');
        room.type(1, 'b');
        room.type(1, 'c');
        room.type(0, 'd');
        Check.pass(room, 0, 2);
        Check.pass(room, 1, 2);
        Check.due(3, room.actAt(2, 0));
        Check.due(1, room.actAt(2, 1));
        Check.due(0, room.actAt(2, 2));
        Check.due(2, room.actAt(2, 3));
        // Each comes at the beginning but c, which is behind b: the last one done is first.
        Check.due("abcd", Check.text(room, 2));
        room.type(2, 'e');
        Check.due(3200, room.act(4));
    }

    private static void rowOfTwoSites() {
        Marginnote room = Check.roomWith("ab");
        Check.pass(room, 0, 1);
        room.moveTo(0, 1);
        room.moveTo(1, 1);
        Check.write(room, 0, "xy");
        Check.write(room, 1, "uv");
        Check.pass(room, 0, 1);
        Check.pass(room, 1, 0);
        Check.due("auvxyb", Check.text(room, 0));
        Check.due("auvxyb", Check.text(room, 1));
        Check.due(5, room.cursor(0));
        Check.due(3, room.cursor(1));
    }

    private static void marksOfNewElements() {
        Marginnote room = Check.roomWith("abcd");
        Check.select(room, 0, 1, 3);
        room.mark(0, Marginnote.BOLD, true);
        room.mark(0, Marginnote.LINK, true);
        // Behind the last one: BOLD grows, LINK does not; ahead of the first one neither.
        room.moveTo(0, 3);
        room.type(0, 'x');
        room.moveTo(0, 1);
        room.type(0, 'y');
        room.moveTo(0, 3);
        room.type(0, 'z');
        Check.due("aybzcxd", Check.text(room, 0));
        Check.due("--++++-", Check.marks(room, 0, Marginnote.BOLD));
        Check.due("--+++--", Check.marks(room, 0, Marginnote.LINK));
        room.moveTo(0, 0);
        room.type(0, 'w');
        Check.due("---++++-", Check.marks(room, 0, Marginnote.BOLD));
        // At the very end there is nothing behind, so LINK does not go on.
        Marginnote end = Check.roomWith("ab");
        Check.select(end, 0, 0, 2);
        end.mark(0, Marginnote.LINK, true);
        end.mark(0, Marginnote.BOLD, true);
        end.moveTo(0, 2);
        end.type(0, 'c');
        end.moveTo(0, 0);
        end.type(0, 'd');
        Check.due("-++-", Check.marks(end, 0, Marginnote.LINK));
        Check.due("-+++", Check.marks(end, 0, Marginnote.BOLD));
        // Graves are neighbours in the row as well.
        Marginnote grave = Check.roomWith("abc");
        Check.select(grave, 0, 1, 2);
        grave.mark(0, Marginnote.BOLD, true);
        grave.erase(0);
        grave.moveTo(0, 1);
        grave.type(0, 'x');
        Check.due("---", Check.marks(grave, 0, Marginnote.BOLD));
        grave.undo(0);
        grave.undo(0);
        grave.moveTo(0, 2);
        grave.erase(0);
        grave.type(0, 'y');
        Check.due("ayc", Check.text(grave, 0));
        Check.due("-+-", Check.marks(grave, 0, Marginnote.BOLD));
    }

    private static void commentsOfNewElements() {
        Marginnote room = Check.roomWith("abc");
        Check.select(room, 0, 0, 2);
        int outer = room.comment(0);
        Check.select(room, 0, 1, 3);
        int later = room.comment(0);
        room.moveTo(0, 1);
        room.type(0, 'x');
        Check.due(3, room.covered(0, outer));
        Check.due(2, room.covered(0, later));
        room.moveTo(0, 3);
        room.type(0, 'y');
        Check.due(3, room.covered(0, outer));
        Check.due(3, room.covered(0, later));
        room.moveTo(0, 0);
        room.type(0, 'z');
        room.moveTo(0, 6);
        room.type(0, 'w');
        Check.due(3, room.covered(0, outer));
        Check.due(3, room.covered(0, later));
        Check.select(room, 0, 1, 3);
        room.erase(0);
        Check.due(1, room.covered(0, outer));
        Check.due(3, room.covered(0, later));
        // What is put between two graves is covered if both were.
        room.undo(0);
        room.undo(0);
        Check.due(3, room.covered(0, outer));
    }

    private static void marksByLevel() {
        Marginnote room = Check.roomWith("ab/cd/ef");
        room.allow(1, 1, Marginnote.SUGGEST);
        room.allow(2, 2, Marginnote.READ);
        Check.pass(room, 0, 1);
        Check.pass(room, 0, 2);
        Check.select(room, 1, 1, 7);
        room.mark(1, Marginnote.BOLD, true);
        Check.due("-+---++-", Check.marks(room, 1, Marginnote.BOLD));
        Check.select(room, 2, 0, 8);
        room.mark(2, Marginnote.LINK, true);
        Check.due("+++++---", Check.marks(room, 2, Marginnote.LINK));
        // A comment covers all, whatever the level.
        int comment = room.comment(2);
        Check.due(8, room.covered(2, comment));
    }

    private static void levelAtItsTurn() {
        // Site 1 types twice without knowing of the ALLOW; what comes ahead of it in order is fine.
        Marginnote room = Check.roomWith("a");
        Check.pass(room, 0, 1);
        room.setKind(0, 0, 1);
        room.allow(0, 1, Marginnote.READ);
        room.type(1, 'x');
        room.type(1, 'y');
        room.type(1, 'z');
        Check.due(2100, room.act(3));
        Check.due(3010, room.act(2));
        Check.pass(room, 1, 0);
        // x has the count 2, y the count 3, but site 0 is ahead of site 1: y and z are VOID.
        Check.due("xa", Check.text(room, 0));
        Check.due(2, room.graves(0));
        Check.due("xyz", Check.text(room, 1).substring(0, 3));
        Check.pass(room, 0, 1);
        Check.due("xa", Check.text(room, 1));
        // SUGGEST makes it a proposal in the same way.
        Marginnote suggest = Check.roomWith("a");
        Check.pass(suggest, 0, 1);
        suggest.allow(0, 1, Marginnote.SUGGEST);
        suggest.type(1, 'x');
        suggest.moveTo(1, 2);
        suggest.erase(1);
        Check.due("x", Check.text(suggest, 1));
        Check.pass(suggest, 0, 1);
        Check.due("xa", Check.text(suggest, 1));
        Check.due("12", Check.proposals(suggest, 1));
    }

    private static void levelOfMergedBlocks() {
        Marginnote room = Check.roomWith("a/b");
        room.allow(1, 1, Marginnote.READ);
        Check.pass(room, 0, 1);
        room.moveTo(1, 3);
        Check.badState(() -> room.type(1, 'x'));
        room.moveTo(0, 2);
        room.erase(0);
        Check.pass(room, 0, 1);
        // The break is gone: b is in the first block, where site 1 writes.
        Check.due(1, room.blocks(1));
        Check.due(5, room.type(1, 'x'));
        room.undo(0);
        Check.pass(room, 0, 1);
        // With the REMOVE undone it is READ again, for what is done by then, too.
        Check.due("a/b", Check.text(room, 1));
        Check.due(Marginnote.READ, room.level(1, 1));
        // A break that is only proposed does not begin a block.
        Marginnote proposed = Check.roomWith("ab");
        proposed.propose(0, true);
        proposed.moveTo(0, 1);
        proposed.split(0);
        Check.due(1, proposed.blocks(0));
        proposed.decide(0, 2, true);
        Check.due(2, proposed.blocks(0));
    }

    private static void removeByLevel() {
        Marginnote room = Check.roomWith("a/b/c");
        room.allow(1, 1, Marginnote.SUGGEST);
        room.allow(2, 1, Marginnote.READ);
        Check.pass(room, 0, 1);
        Check.select(room, 1, 0, 5);
        Check.due(5, room.erase(1));
        // a goes; the break and b are proposed to go; the second break and c stay.
        Check.due("/b/c", Check.text(room, 1));
        Check.due("2200", Check.proposals(room, 1));
        Check.due(2, room.open(1));
        // In the order of the row: a break that is gone gives its letters the level ahead of it.
        Marginnote row = Check.roomWith("a/b");
        row.allow(0, 1, Marginnote.READ);
        Check.pass(row, 0, 1);
        Check.select(row, 1, 1, 3);
        row.erase(1);
        Check.due("ab", Check.text(row, 1));
    }

    private static void removeOfOneselfProposed() {
        Marginnote room = Check.roomWith("ab");
        room.allow(0, 1, Marginnote.SUGGEST);
        Check.pass(room, 0, 1);
        Check.pass(room, 0, 2);
        room.moveTo(1, 2);
        room.type(1, 'x');
        room.type(1, 'y');
        Check.due("0011", Check.proposals(room, 1));
        room.erase(1);
        Check.due("001", Check.proposals(room, 1));
        // The proposal of another writer is not one's own.
        Check.pass(room, 1, 2);
        room.propose(2, true);
        room.moveTo(2, 3);
        room.erase(2);
        Check.due("003", Check.proposals(room, 2));
        Check.due(2, room.open(2));
        // With READ nothing at all is done, to one's own neither.
        Check.pass(room, 1, 0);
        room.allow(0, 1, Marginnote.READ);
        Check.pass(room, 0, 1);
        room.moveTo(1, 3);
        room.erase(1);
        Check.due("001", Check.proposals(room, 1));
        // Accepted it is PLAIN, and then a proposal of the same writer is needed.
        Check.pass(room, 1, 0);
        room.allow(0, 1, Marginnote.SUGGEST);
        room.decide(0, 3, true);
        Check.pass(room, 0, 1);
        room.erase(1);
        Check.due("002", Check.proposals(room, 1));
    }

    private static void openAgain() {
        Marginnote room = Check.roomWith("ab");
        room.propose(0, true);
        room.erase(0);
        Check.due(1, room.open(0));
        room.propose(0, false);
        room.erase(0);
        Check.due(0, room.open(0));
        Check.badState(() -> room.decide(0, 2, true));
        room.undo(0);
        Check.due(1, room.open(0));
        Check.due("02", Check.proposals(room, 0));
        // Accepted it is not open again, although the letter is brought back.
        room.name(0);
        room.decide(0, 2, true);
        Check.due("a", Check.text(room, 0));
        room.bringBack(0, 0);
        Check.due("00", Check.proposals(room, 0));
        Check.due(0, room.open(0));
        // Also a TYPE that is proposed is open again when it is not removed any more.
        Marginnote type = new Marginnote();
        type.propose(0, true);
        type.type(0, 'a');
        type.erase(0);
        Check.due(0, type.open(0));
        type.undo(0);
        Check.due(1, type.open(0));
        type.decide(0, 0, false);
        Check.due(0, type.open(0));
        Check.due(1, type.graves(0));
    }

    private static void severalRemovals() {
        Marginnote room = Check.roomWith("a");
        room.propose(0, true);
        room.erase(0);
        room.erase(0);
        Check.due(2, room.open(0));
        Check.due("2", Check.proposals(room, 0));
        room.decide(0, 1, false);
        Check.due(1, room.open(0));
        Check.due("2", Check.proposals(room, 0));
        room.name(0);
        room.decide(0, 2, true);
        Check.due(0, room.open(0));
        Check.due("", Check.text(room, 0));
        // Of two, one accepted: the other one is open again with the letter.
        Marginnote two = Check.roomWith("a");
        two.name(0);
        two.propose(0, true);
        two.erase(0);
        two.erase(0);
        two.decide(0, 2, true);
        Check.due(0, two.open(0));
        two.bringBack(0, 0);
        Check.due(1, two.open(0));
        Check.due("2", Check.proposals(two, 0));
        two.decide(0, 1, false);
        Check.due("0", Check.proposals(two, 0));
    }

    private static void decisionsThatComeLate() {
        // Two sites decide at once: the first one in order counts.
        Marginnote room = Check.roomWith("a");
        room.propose(0, true);
        room.type(0, 'b');
        Check.pass(room, 0, 1);
        Check.pass(room, 0, 2);
        room.decide(2, 1, true);
        room.decide(1, 1, false);
        Check.due("ab", Check.text(room, 2));
        Check.pass(room, 1, 2);
        Check.due("a", Check.text(room, 2));
        Check.pass(room, 2, 1);
        Check.due("a", Check.text(room, 1));
        // One without the level WRITE by then does nothing.
        Marginnote late = Check.roomWith("a");
        late.propose(0, true);
        late.type(0, 'b');
        Check.pass(late, 0, 1);
        late.allow(0, 1, Marginnote.SUGGEST);
        late.decide(1, 1, true);
        Check.due("00", Check.proposals(late, 1));
        Check.pass(late, 0, 1);
        Check.due("01", Check.proposals(late, 1));
        // A refused element is VOID for good: accepting it behind that does nothing.
        Check.pass(room, 1, 0);
        Check.badState(() -> room.decide(0, 1, true));
    }

    private static void restoreByLevel() {
        Marginnote room = Check.roomWith("ab/cd");
        room.name(0);
        Check.select(room, 0, 1, 5);
        room.erase(0);
        room.allow(0, 1, Marginnote.SUGGEST);
        Check.pass(room, 0, 1);
        Check.due(4, room.bringBack(1, 0));
        Check.due("a", Check.text(room, 1));
        Check.pass(room, 1, 0);
        // With WRITE all come back; the acts done before that stay without effect.
        room.allow(0, 1, Marginnote.WRITE);
        Check.pass(room, 0, 1);
        Check.due(4, room.bringBack(1, 0));
        Check.due("ab/cd", Check.text(room, 1));
        // A VOID element stays so.
        Marginnote gone = Check.roomWith("ab");
        gone.name(0);
        gone.undo(0);
        Check.due(1, gone.bringBack(0, 0));
        Check.due(4003, gone.act(3));
        Check.due("a", Check.text(gone, 0));
    }

    private static void undoneForAllTheSet() {
        // A split that is undone never was: the level that hung on it did not hold either.
        Marginnote room = Check.roomWith("a/b");
        room.allow(1, 1, Marginnote.READ);
        Check.pass(room, 0, 1);
        Check.due(2, room.undo(0));
        Check.due(1, room.undo(0));
        Check.due("a", Check.text(room, 0));
        room.redo(0);
        Check.pass(room, 0, 1);
        Check.due("a/", Check.text(room, 1));
        // Undone with the break READ ahead: what site 1 could not do is done now.
        Marginnote late = Check.roomWith("a/");
        Check.pass(late, 0, 1);
        late.moveTo(1, 2);
        late.type(1, 'x');
        late.type(1, 'y');
        late.allow(1, 1, Marginnote.READ);
        Check.pass(late, 0, 1);
        // x and the ALLOW have the same count, and site 0 is ahead.
        Check.due("a/", Check.text(late, 1));
        Check.due(2, late.graves(1));
        Check.due(1, late.undo(0));
        Check.pass(late, 0, 1);
        Check.due("axy", Check.text(late, 1));
    }

    private static void lastUndoOrRedoCounts() {
        // Site 0 redoes at once with what it does not know: the last one in order counts.
        Marginnote room = Check.roomWith("a");
        room.undo(0);
        room.save(0);
        room.redo(0);
        Check.due(false, room.isUndone(0, 0));
        int redone = room.send(0, 1);
        room.crash(0, 1);
        Check.due(true, room.isUndone(0, 0));
        Check.due(0, room.redo(0));
        Check.due(0, room.undo(0));
        Check.due(3, room.deliver(redone));
        Check.due(false, room.isUndone(1, 0));
        Check.due(1, Check.pass(room, 1, 0));
        Check.due(true, room.isUndone(0, 0));
        Check.due("", Check.text(room, 0));
        Check.due("a", Check.text(room, 1));
    }

    private static void nestTogether() {
        // Each alone is fine, both make a ring: the later one in order does nothing.
        Marginnote room = Check.roomWith("a/b/c");
        Check.pass(room, 0, 1);
        room.nest(0, 1, 2);
        room.nest(1, 2, 1);
        Check.due(1, room.depth(1, 2));
        Check.pass(room, 0, 1);
        Check.pass(room, 1, 0);
        for (int site = 0; site < 2; site++) {
            Check.due(1, room.depth(site, 1));
            Check.due(0, room.depth(site, 2));
        }
        // With the first one undone the second one is done.
        room.undo(0);
        Check.due(0, room.depth(0, 1));
        Check.due(1, room.depth(0, 2));
        // Under itself by a longer way.
        Marginnote way = Check.roomWith("/a/b/c");
        way.nest(0, 2, 1);
        way.nest(0, 3, 2);
        way.nest(0, 1, 3);
        Check.due(0, way.depth(0, 1));
        Check.due(2, way.depth(0, 3));
    }

    private static void kindAndNestByLevel() {
        Marginnote room = Check.roomWith("a/b");
        Check.pass(room, 0, 1);
        room.allow(1, 1, Marginnote.SUGGEST);
        room.setKind(1, 1, 2);
        room.nest(1, 1, 0);
        room.setKind(1, 0, 3);
        Check.due(2, room.kind(1, 1));
        Check.due(1, room.depth(1, 1));
        Check.pass(room, 0, 1);
        Check.due(0, room.kind(1, 1));
        Check.due(0, room.depth(1, 1));
        Check.due(3, room.kind(1, 0));
    }

    private static void splitOfMarksAndBlocks() {
        // A block keeps its kind while its break is removed, and has it again with that.
        Marginnote room = Check.roomWith("a/b/c");
        room.setKind(0, 1, 2);
        room.setKind(0, 2, 3);
        room.nest(0, 2, 1);
        room.nest(0, 1, 0);
        room.moveTo(0, 2);
        room.erase(0);
        Check.due(2, room.blocks(0));
        Check.due(3, room.kind(0, 1));
        // The block between does not show: it is left out, but the way goes on through it.
        Check.due(1, room.depth(0, 1));
        room.undo(0);
        Check.due(2, room.depth(0, 2));
        Check.due(2, room.kind(0, 1));
        // A new block within that one has the kind 0, and none above it.
        room.moveTo(0, 3);
        room.split(0);
        Check.due(4, room.blocks(0));
        Check.due(0, room.kind(0, 2));
        Check.due(0, room.depth(0, 2));
        Check.due(3, room.kind(0, 3));
    }
}
