/** Promises 23 to 39: what is asked about the documents of sites. */
public final class DocumentsTest {
    public static void main(String[] args) {
        lengthAndShown();
        element();
        letter();
        proposed();
        open();
        isMarked();
        covered();
        blocks();
        kind();
        depth();
        level();
        cursorAndTail();
        graves();
        buried();
        buriedAfterCrash();
        noSuchSite();
        Check.end();
    }

    private static void lengthAndShown() {
        Marginnote room = Check.roomWith("ab/c");
        Check.due(4, room.length(0));
        Check.due(4, room.shown(0));
        Check.due(0, room.length(1));
        Check.due(0, room.shown(1));
        room.propose(0, true);
        room.type(0, 'd');
        Check.due(5, room.length(0));
        Check.due(4, room.shown(0));
        room.moveTo(0, 1);
        room.erase(0);
        Check.due(5, room.length(0));
        Check.due(4, room.shown(0));
        room.propose(0, false);
        room.erase(0);
        Check.due(4, room.length(0));
        Check.due(3, room.shown(0));
    }

    private static void element() {
        Marginnote room = Check.roomWith("ab/");
        room.setKind(0, 0, 1);
        room.moveTo(0, 1);
        room.type(0, 'x');
        int[] row = {0, 4, 1, 2};
        for (int place = 0; place < row.length; place++) {
            Check.due(row[place], room.element(0, place));
            Check.due(row[place], room.elementAnew(0, place));
        }
        room.erase(0);
        Check.due(1, room.element(0, 1));
        Check.due(1, room.elementAnew(0, 1));
        Check.due(2, room.element(0, 2));
        room.undo(0);
        Check.due(4, room.elementAnew(0, 1));
        Check.due(4, room.element(0, 1));
        for (int place : new int[] {-1, 4, Integer.MAX_VALUE, Integer.MIN_VALUE}) {
            Check.outOfBounds(() -> room.element(0, place));
            Check.outOfBounds(() -> room.elementAnew(0, place));
        }
        Check.outOfBounds(() -> room.element(1, 0));
        Check.outOfBounds(() -> room.elementAnew(1, 0));
        Check.outOfBounds(() -> room.element(4, 0));
        Check.outOfBounds(() -> room.element(-1, 0));
        Check.outOfBounds(() -> room.elementAnew(4, 0));
        Check.outOfBounds(() -> room.elementAnew(-1, 0));
        // By the site's own acts, not by those that others made meanwhile.
        Check.pass(room, 0, 1);
        room.moveTo(1, 0);
        int first = room.type(1, 'q');
        Check.due(first, room.elementAnew(1, 0));
        Check.due(0, room.elementAnew(0, 0));
    }

    private static void letter() {
        Marginnote room = Check.roomWith("a z/");
        Check.due('a', room.letter(0, 0));
        Check.due(' ', room.letter(0, 1));
        Check.due('z', room.letter(0, 2));
        Check.due('/', room.letter(0, 3));
        Check.outOfBounds(() -> room.letter(0, 4));
        Check.outOfBounds(() -> room.letter(0, -1));
        Check.outOfBounds(() -> room.letter(1, 0));
        Check.outOfBounds(() -> room.letter(-1, 0));
        Check.outOfBounds(() -> room.letter(4, 0));
    }

    private static void proposed() {
        Marginnote room = Check.roomWith("ab");
        room.propose(0, true);
        room.type(0, 'c');
        room.moveTo(0, 1);
        room.erase(0);
        Check.due(2, room.proposed(0, 0));
        Check.due(0, room.proposed(0, 1));
        Check.due(1, room.proposed(0, 2));
        Check.pass(room, 0, 1);
        room.propose(1, true);
        room.moveTo(1, 3);
        room.erase(1);
        Check.due(3, room.proposed(1, 2));
        // The TYPE accepted: it is still proposed to be removed.
        room.decide(1, 2, true);
        Check.due(2, room.proposed(1, 2));
        Check.outOfBounds(() -> room.proposed(0, 3));
        Check.outOfBounds(() -> room.proposed(0, -1));
        Check.outOfBounds(() -> room.proposed(2, 0));
        Check.outOfBounds(() -> room.proposed(-1, 0));
        Check.outOfBounds(() -> room.proposed(4, 0));
    }

    private static void open() {
        Marginnote room = Check.roomWith("ab");
        Check.due(0, room.open(0));
        room.propose(0, true);
        room.type(0, 'c');
        room.split(0);
        Check.due(2, room.open(0));
        room.moveTo(0, 2);
        room.erase(0);
        room.erase(0);
        Check.due(4, room.open(0));
        room.decide(0, 2, false);
        Check.due(3, room.open(0));
        // A REMOVE that is undone is no proposal any more.
        room.undo(0);
        Check.due(2, room.open(0));
        Check.due("021", Check.proposals(room, 0));
        room.undo(0);
        Check.due(1, room.open(0));
        room.undo(0);
        Check.due(0, room.open(0));
        Check.due(0, room.open(1));
    }

    private static void isMarked() {
        Marginnote room = Check.roomWith("ab");
        Check.select(room, 0, 0, 1);
        room.mark(0, Marginnote.LINK, true);
        Check.due(true, room.isMarked(0, 0, Marginnote.LINK));
        Check.due(false, room.isMarked(0, 0, Marginnote.BOLD));
        Check.due(false, room.isMarked(0, 1, Marginnote.LINK));
        Check.outOfBounds(() -> room.isMarked(0, 2, 2));
        Check.outOfBounds(() -> room.isMarked(0, -1, 0));
        Check.outOfBounds(() -> room.isMarked(-1, 0, 0));
        Check.outOfBounds(() -> room.isMarked(4, 0, 0));
        Check.badArgument(() -> room.isMarked(0, 0, 2));
        Check.badArgument(() -> room.isMarked(0, 0, -1));
        Check.badArgument(() -> room.isMarked(0, 0, 32));
        // A comment is no mark, however many there are.
        room.comment(0);
        Check.due(false, room.isMarked(0, 0, Marginnote.BOLD));
        // A mark by one who may, then the later one takes it away.
        Check.pass(room, 0, 1);
        Check.select(room, 1, 0, 2);
        room.mark(1, Marginnote.LINK, false);
        Check.due(false, room.isMarked(1, 0, Marginnote.LINK));
        room.undo(1);
        Check.due(true, room.isMarked(1, 0, Marginnote.LINK));
    }

    private static void covered() {
        Marginnote room = Check.roomWith("abcd");
        Check.select(room, 0, 0, 3);
        int comment = room.comment(0);
        Check.due(3, room.covered(0, comment));
        Check.due(Marginnote.NONE, room.covered(0, 0));
        Check.outOfBounds(() -> room.covered(0, 5));
        Check.outOfBounds(() -> room.covered(0, -1));
        Check.outOfBounds(() -> room.covered(1, comment));
        Check.outOfBounds(() -> room.covered(-1, comment));
        Check.outOfBounds(() -> room.covered(4, comment));
        Check.select(room, 0, 1, 4);
        room.erase(0);
        Check.due(1, room.covered(0, comment));
        room.erase(0);
        Check.due(0, room.covered(0, comment));
        for (int i = 0; i < 4; i++) {
            room.undo(0);
        }
        Check.due(3, room.covered(0, comment));
        room.undo(0);
        Check.due(0, room.covered(0, comment));
        Check.due(Marginnote.NONE, room.covered(0, comment + 5));
        room.redo(0);
        Check.due(3, room.covered(0, comment));
        // What is only proposed is seen, so it is covered.
        room.moveTo(0, 1);
        room.propose(0, true);
        room.type(0, 'x');
        Check.due(4, room.covered(0, comment));
    }

    private static void blocks() {
        Marginnote room = Check.roomWith("a/b//");
        Check.due(4, room.blocks(0));
        Check.due(1, room.blocks(1));
        room.moveTo(0, 2);
        room.erase(0);
        Check.due(3, room.blocks(0));
        room.propose(0, true);
        room.split(0);
        Check.due(3, room.blocks(0));
        // A break that is proposed to go shows still.
        room.moveTo(0, 5);
        room.erase(0);
        Check.due(3, room.blocks(0));
    }

    private static void kind() {
        Marginnote room = Check.roomWith("a/b/c");
        room.setKind(0, 2, 3);
        room.setKind(0, 1, 2);
        room.setKind(0, 0, 1);
        Check.due(1, room.kind(0, 0));
        Check.due(2, room.kind(0, 1));
        Check.due(3, room.kind(0, 2));
        // By their places: without the first break the second one is the next block.
        room.moveTo(0, 2);
        room.erase(0);
        Check.due(3, room.kind(0, 1));
        Check.outOfBounds(() -> room.kind(0, 2));
        Check.outOfBounds(() -> room.kind(0, -1));
        Check.outOfBounds(() -> room.kind(1, 1));
        Check.outOfBounds(() -> room.kind(-1, 0));
        Check.outOfBounds(() -> room.kind(4, 0));
        Check.due(0, room.kind(1, 0));
    }

    private static void depth() {
        Marginnote room = Check.roomWith("/////");
        for (int block = 1; block <= 5; block++) {
            room.nest(0, block, block - 1);
        }
        for (int block = 0; block <= 5; block++) {
            Check.due(block, room.depth(0, block));
        }
        room.moveTo(0, 3);
        room.erase(0);
        Check.due(2, room.depth(0, 2));
        Check.due(3, room.depth(0, 3));
        Check.due(4, room.depth(0, 4));
        Check.outOfBounds(() -> room.depth(0, 5));
        Check.outOfBounds(() -> room.depth(0, -1));
        Check.outOfBounds(() -> room.depth(-1, 0));
        Check.outOfBounds(() -> room.depth(4, 0));
    }

    private static void level() {
        Marginnote room = Check.roomWith("a/b");
        room.allow(1, 2, Marginnote.SUGGEST);
        Check.due(Marginnote.WRITE, room.level(0, 1));
        Check.due(Marginnote.WRITE, room.level(2, 0));
        Check.outOfBounds(() -> room.level(2, 1));
        Check.pass(room, 0, 2);
        Check.pass(room, 0, 1);
        Check.due(Marginnote.SUGGEST, room.level(2, 1));
        Check.due(Marginnote.WRITE, room.level(2, 0));
        Check.due(Marginnote.WRITE, room.level(1, 1));
        room.allow(1, 2, Marginnote.READ);
        Check.due(Marginnote.SUGGEST, room.level(2, 1));
        Check.pass(room, 0, 2);
        Check.due(Marginnote.READ, room.level(2, 1));
        Check.outOfBounds(() -> room.level(0, 2));
        Check.outOfBounds(() -> room.level(0, -1));
        Check.outOfBounds(() -> room.level(-1, 0));
        Check.outOfBounds(() -> room.level(4, 0));
    }

    private static void cursorAndTail() {
        Marginnote room = Check.roomWith("abcd");
        Check.select(room, 0, 1, 3);
        Check.due(3, room.cursor(0));
        Check.due(1, room.tail(0));
        Check.pass(room, 0, 1);
        room.moveTo(1, 1);
        room.erase(1);
        Check.pass(room, 1, 0);
        // a is a grave: the tail stands behind it, ahead of all that is seen.
        Check.due(2, room.cursor(0));
        Check.due(0, room.tail(0));
        room.undo(1);
        Check.pass(room, 1, 0);
        Check.due(3, room.cursor(0));
        Check.due(1, room.tail(0));
        // An element that is only proposed counts, too.
        room.moveTo(1, 0);
        room.propose(1, true);
        room.type(1, 'x');
        Check.pass(room, 1, 0);
        Check.due(4, room.cursor(0));
        Check.due(2, room.tail(0));
    }

    private static void graves() {
        Marginnote room = Check.roomWith("abc");
        Check.due(0, room.graves(0));
        room.erase(0);
        Check.due(1, room.graves(0));
        Check.due(0, room.graves(1));
        room.undo(0);
        Check.due(0, room.graves(0));
        // What is VOID is a grave as well, what is proposed is none.
        room.undo(0);
        Check.due(1, room.graves(0));
        room.propose(0, true);
        room.type(0, 'x');
        Check.due(1, room.graves(0));
        room.decide(0, room.acts() - 1, false);
        Check.due(2, room.graves(0));
    }

    private static void tellAll(Marginnote room, int from) {
        for (int to = 0; to < 4; to++) {
            if (to != from) {
                Check.pass(room, from, to);
            }
        }
    }

    private static void buried() {
        Marginnote room = Check.roomWith("abc");
        room.erase(0);
        tellAll(room, 0);
        Check.due(0, room.buried(0));
        for (int site = 0; site < 4; site++) {
            room.save(site);
        }
        Check.due(0, room.buried(0));
        // Nobody knows of others yet; what a site has is not told as safe before it was saved.
        Check.pass(room, 1, 0);
        Check.pass(room, 2, 0);
        Check.due(0, room.buried(0));
        Check.pass(room, 3, 2);
        Check.due(0, room.buried(0));
        Check.pass(room, 2, 0);
        Check.due(1, room.buried(0));
        Check.due(0, room.buried(1));
        Check.due(0, room.buried(2));
        Check.pass(room, 0, 1);
        Check.due(1, room.buried(1));
        // An element that comes back is no grave, though it was one for all.
        room.undo(0);
        Check.due(0, room.buried(0));
        Check.due(0, room.graves(0));
        Check.due(1, room.buried(1));
        room.redo(0);
        Check.due(1, room.buried(0));
        // A new grave is not known to all.
        room.erase(0);
        Check.due(2, room.graves(0));
        Check.due(1, room.buried(0));
        // What is VOID is buried, too; what is only proposed is seen, so it is not.
        Marginnote kinds = Check.roomWith("a");
        kinds.propose(0, true);
        kinds.type(0, 'b');
        kinds.type(0, 'c');
        kinds.undo(0);
        tellAll(kinds, 0);
        kinds.save(0);
        for (int site = 1; site < 4; site++) {
            kinds.save(site);
            Check.pass(kinds, site, 0);
        }
        Check.due(1, kinds.graves(0));
        Check.due(1, kinds.buried(0));
        // A grave that was seen yet in what all have is not buried, and one accepted since neither.
        kinds.decide(0, 1, false);
        Check.due(2, kinds.graves(0));
        Check.due(1, kinds.buried(0));
        // A site that did not save it itself does not count itself.
        Marginnote unsafe = Check.roomWith("a");
        unsafe.erase(0);
        tellAll(unsafe, 0);
        for (int site = 1; site < 4; site++) {
            unsafe.save(site);
            Check.pass(unsafe, site, 0);
        }
        Check.due(0, unsafe.buried(0));
        unsafe.save(0);
        Check.due(1, unsafe.buried(0));
    }

    private static void buriedAfterCrash() {
        // What was told stays known, although the acts of that message are lost.
        Marginnote room = Check.roomWith("a");
        room.erase(0);
        tellAll(room, 0);
        for (int site = 0; site < 3; site++) {
            room.save(site);
        }
        Check.pass(room, 1, 0);
        Check.pass(room, 2, 0);
        int all = room.send(0, 3);
        room.deliver(all);
        Check.due(0, room.buried(3));
        room.crash(3, 2);
        room.deliver(all);
        room.save(3);
        Check.due(1, room.buried(3));
        // The same, but the acts come from one who knows nothing of the others.
        Marginnote other = Check.roomWith("a");
        other.erase(0);
        tellAll(other, 0);
        int early = other.send(1, 3);
        for (int site = 0; site < 3; site++) {
            other.save(site);
        }
        Check.pass(other, 1, 0);
        Check.pass(other, 2, 0);
        Check.pass(other, 0, 3);
        other.crash(3, 2);
        Check.due(0, other.buried(3));
        Check.due(2, other.deliver(early));
        Check.due(0, other.buried(3));
        other.save(3);
        Check.due(1, other.buried(3));
        // Of what a site does not have safe others are told nothing: only a part is known to all.
        Marginnote part = Check.roomWith("ab");
        part.erase(0);
        part.save(0);
        part.erase(0);
        tellAll(part, 0);
        for (int site = 1; site < 4; site++) {
            part.save(site);
            Check.pass(part, site, 0);
        }
        Check.due(2, part.graves(0));
        Check.due(1, part.buried(0));
    }

    private static void noSuchSite() {
        Marginnote room = Check.roomWith("a");
        for (int site : new int[] {-1, 4, Integer.MIN_VALUE, Integer.MAX_VALUE}) {
            Check.outOfBounds(() -> room.length(site));
            Check.outOfBounds(() -> room.shown(site));
            Check.outOfBounds(() -> room.open(site));
            Check.outOfBounds(() -> room.blocks(site));
            Check.outOfBounds(() -> room.cursor(site));
            Check.outOfBounds(() -> room.tail(site));
            Check.outOfBounds(() -> room.graves(site));
            Check.outOfBounds(() -> room.buried(site));
        }
    }
}
