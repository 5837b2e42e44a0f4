/** Promises 16 to 22: messages, journals, versions. */
public final class MessagesTest {
    public static void main(String[] args) {
        send();
        sendsOnlySoMany();
        deliver();
        deliverOnceAgain();
        countsAfterMessages();
        save();
        crash();
        crashMovesCursors();
        crashWithinMessage();
        countsAfterCrash();
        name();
        bringBack();
        bringBackNeedsTheActs();
        bringBackIsNoProposal();
        differ();
        Check.end();
    }

    private static void send() {
        Marginnote room = Check.roomWith("a");
        Check.due(0, room.send(0, 1));
        Check.due(1, room.send(3, 2));
        Check.outOfBounds(() -> room.send(-1, 1));
        Check.outOfBounds(() -> room.send(4, 4));
        Check.outOfBounds(() -> room.send(0, 4));
        Check.outOfBounds(() -> room.send(0, -1));
        Check.badArgument(() -> room.send(2, 2));
        Check.badArgument(() -> room.send(0, 0));
        Check.due(2, room.send(1, 0));
        Check.due(0, room.has(1));
        // A message has what its sender had when it was sent, also what is lost since.
        room.type(0, 'b');
        room.crash(0, 2);
        Check.due(1, room.deliver(0));
        Check.due("a", Check.text(room, 1));
        Check.due(0, room.has(0));
    }

    private static void sendsOnlySoMany() {
        Marginnote room = Check.roomWith("a");
        for (int i = 0; i < 80; i++) {
            Check.due(i, room.send(i % 4, (i + 1) % 4));
        }
        Check.badState(() -> room.send(0, 1));
        Check.badArgument(() -> room.send(1, 1));
        Check.outOfBounds(() -> room.send(1, 4));
        Check.due(1, room.deliver(76));
        Check.due(0, room.deliver(79));
        Check.outOfBounds(() -> room.deliver(80));
    }

    private static void deliver() {
        Marginnote room = Check.roomWith("abc");
        int first = room.send(0, 1);
        room.type(0, 'd');
        int second = room.send(0, 1);
        Check.due(4, room.deliver(second));
        Check.due(0, room.deliver(first));
        Check.due("abcd", Check.text(room, 1));
        Check.due(4, room.has(1));
        Check.due(0, room.cursor(1));
        Check.due(0, room.has(2));
        Check.outOfBounds(() -> room.deliver(-1));
        Check.outOfBounds(() -> room.deliver(2));
        Check.outOfBounds(() -> room.deliver(Integer.MAX_VALUE));
        // The cursor stays behind its element, wherever that is then.
        room.moveTo(1, 2);
        room.moveTo(0, 0);
        room.type(0, 'x');
        Check.pass(room, 0, 1);
        Check.due(3, room.cursor(1));
        Check.due(3, room.tail(1));
        // Messages go on: what came from one site goes to the next one.
        Check.due(5, Check.pass(room, 1, 3));
        Check.due("xabcd", Check.text(room, 3));
    }

    private static void deliverOnceAgain() {
        Marginnote room = Check.roomWith("ab");
        int message = room.send(0, 1);
        Check.due(2, room.deliver(message));
        Check.due(0, room.deliver(message));
        Check.due(1, room.crash(1, 1));
        Check.due("a", Check.text(room, 1));
        Check.due(1, room.deliver(message));
        Check.due("ab", Check.text(room, 1));
        Check.due(2, room.has(1));
    }

    private static void countsAfterMessages() {
        Marginnote room = Check.roomWith("abc");
        room.type(1, 'x');
        Check.due(1100, room.act(3));
        Check.pass(room, 0, 1);
        room.type(1, 'y');
        Check.due(4100, room.act(4));
        // A message of fewer counts does not bring one's own down.
        room.type(2, 'z');
        Check.pass(room, 2, 1);
        room.type(1, 'w');
        Check.due(5100, room.act(6));
    }

    private static void save() {
        Marginnote room = Check.roomWith("abc");
        Check.due(3, room.save(0));
        Check.due(0, room.save(0));
        Check.due(0, room.save(1));
        room.type(0, 'd');
        room.type(1, 'e');
        Check.pass(room, 1, 0);
        Check.due(2, room.save(0));
        Check.due(1, room.save(1));
        Check.badArgument(() -> room.crash(0, 1));
        Check.outOfBounds(() -> room.save(-1));
        Check.outOfBounds(() -> room.save(4));
    }

    private static void crash() {
        Marginnote room = Check.roomWith("abcd");
        Check.outOfBounds(() -> room.crash(-1, 9));
        Check.outOfBounds(() -> room.crash(4, 0));
        Check.badArgument(() -> room.crash(0, 5));
        Check.badArgument(() -> room.crash(0, -1));
        Check.badArgument(() -> room.crash(0, Integer.MAX_VALUE));
        Check.badArgument(() -> room.crash(1, 1));
        Check.due(0, room.crash(1, 0));
        Check.due(4, room.crash(0, 0));
        Check.due(3, room.crash(0, 1));
        Check.due("abc", Check.text(room, 0));
        Check.due(4, room.acts());
        room.save(0);
        Check.badArgument(() -> room.crash(0, 1));
        room.type(0, 'e');
        Check.due(4, room.has(0));
        Check.badArgument(() -> room.crash(0, 2));
        Check.due(3, room.crash(0, 1));
        Check.outOfBounds(() -> room.isUndone(0, 4));
        Check.outOfBounds(() -> room.actAt(0, 3));
        // What undid an act is lost as any act.
        room.undo(0);
        Check.due("ab", Check.text(room, 0));
        room.crash(0, 1);
        Check.due("abc", Check.text(room, 0));
        // What was lost is had by those who heard of it, and may come back behind all.
        room.type(0, 'f');
        Check.pass(room, 0, 1);
        room.crash(0, 1);
        Check.due("abc", Check.text(room, 0));
        Check.due(1, Check.pass(room, 1, 0));
        // The cursor had gone to the beginning with d.
        Check.due("fabc", Check.text(room, 0));
        Check.due(3, room.crash(0, 1));
    }

    private static void crashMovesCursors() {
        Marginnote room = Check.roomWith("ab");
        room.save(0);
        room.type(0, 'c');
        Check.select(room, 0, 1, 3);
        room.crash(0, 1);
        // The cursor stood behind c, the tail behind a.
        Check.due(0, room.cursor(0));
        Check.due(1, room.tail(0));
        room.moveTo(0, 2);
        int c = room.type(0, 'c');
        room.extend(0, 1);
        int message = room.send(0, 1);
        room.deliver(message);
        room.crash(0, 1);
        Check.due(1, room.cursor(0));
        Check.due(0, room.tail(0));
        // It stays at the beginning when the element comes back.
        Check.pass(room, 1, 0);
        Check.due(c, room.element(0, 2));
        Check.due(0, room.tail(0));
        room.moveTo(0, 3);
        room.crash(0, 1);
        Check.due(0, room.cursor(0));
        Check.pass(room, 1, 0);
        Check.due(0, room.cursor(0));
        // An element that stays does not move them, though more is lost.
        room.save(0);
        room.moveTo(0, 3);
        room.erase(0);
        room.crash(0, 1);
        Check.due(3, room.cursor(0));
    }

    private static void crashWithinMessage() {
        // What came with one message is lost from its end, in the order of the acts.
        Marginnote room = Check.roomWith("ab");
        room.type(1, 'x');
        room.type(1, 'y');
        room.type(1, 'z');
        room.type(2, 'q');
        room.save(2);
        Check.pass(room, 1, 2);
        Check.pass(room, 0, 2);
        Check.due(6, room.has(2));
        Check.due(4, room.crash(2, 2));
        // The journal: q, x y z, a b; with a b lost the others are had.
        Check.due("qxyz", Check.text(room, 2));
        Check.due(3, room.crash(2, 1));
        Check.due("qxy", Check.text(room, 2));
        Check.badArgument(() -> room.crash(2, 3));
        Check.due(1, room.crash(2, 2));
    }

    private static void countsAfterCrash() {
        Marginnote room = Check.roomWith("abc");
        room.crash(0, 3);
        // What it lost counts, too.
        room.type(0, 'd');
        Check.due(4000, room.act(3));
        Check.pass(room, 0, 1);
        room.crash(1, 1);
        room.type(1, 'e');
        Check.due(5100, room.act(4));
    }

    private static void name() {
        Marginnote room = Check.roomWith("a");
        for (int i = 0; i < 10; i++) {
            Check.due(i, room.name(i % 4));
        }
        Check.badState(() -> room.name(0));
        Check.outOfBounds(() -> room.name(-1));
        Check.outOfBounds(() -> room.name(4));
        Check.due(1, room.differ(8, 9));
        Check.due(0, room.differ(0, 8));
        // A version keeps what its site loses.
        Marginnote lost = Check.roomWith("abc");
        lost.name(0);
        lost.crash(0, 2);
        lost.name(0);
        Check.due(2, lost.differ(0, 1));
    }

    private static void bringBack() {
        Marginnote room = Check.roomWith("abc");
        Check.due(0, room.name(0));
        room.moveTo(0, 1);
        room.type(0, 'x');
        room.moveTo(0, 4);
        room.erase(0);
        Check.due("axb", Check.text(room, 0));
        Check.due(2, room.bringBack(0, 0));
        Check.due("abc", Check.text(room, 0));
        // Through the row: the REMOVE of x comes ahead of the RESTORE of c.
        Check.due(6002, room.act(5));
        Check.due(7003, room.act(6));
        Check.due(0, room.bringBack(0, 0));
        Check.due(6, room.undo(0));
        Check.due("ab", Check.text(room, 0));
        Check.due(1, room.bringBack(0, 0));
        Check.due(3, room.cursor(0));
        Check.outOfBounds(() -> room.bringBack(-1, 0));
        Check.outOfBounds(() -> room.bringBack(4, 0));
        Check.outOfBounds(() -> room.bringBack(0, 1));
        Check.outOfBounds(() -> room.bringBack(0, -1));
        // What is only proposed does not show; it is left as it is.
        room.propose(0, true);
        room.type(0, 'y');
        Check.due(0, room.bringBack(0, 0));
        // What is proposed in the version does not show there.
        Marginnote shows = new Marginnote();
        shows.propose(0, true);
        shows.type(0, 'a');
        shows.name(0);
        shows.decide(0, 0, true);
        Check.due(1, shows.bringBack(0, 0));
        Check.due(3002, shows.act(2));
        // What showed in the version and is only proposed now does not show here.
        Marginnote late = new Marginnote();
        late.type(1, 'a');
        late.name(1);
        late.allow(0, 1, Marginnote.SUGGEST);
        Check.pass(late, 0, 1);
        Check.due("1", Check.proposals(late, 1));
        Check.due(1, late.bringBack(1, 0));
        Check.due(2103, late.act(2));
        Check.due("1", Check.proposals(late, 1));
        // Too many acts: none is made.
        Marginnote full = Check.roomWith("abcd");
        full.name(1);
        for (int i = 0; i < 153; i++) {
            full.setKind(0, 0, 1);
        }
        Check.due(157, full.acts());
        Check.badState(() -> full.bringBack(0, 0));
        Check.due(157, full.acts());
        Check.due("abcd", Check.text(full, 0));
        full.undo(0);
        full.moveTo(0, 4);
        full.erase(0);
        Check.badState(() -> full.bringBack(0, 0));
        Check.due(159, full.acts());
    }

    private static void bringBackNeedsTheActs() {
        Marginnote room = Check.roomWith("ab");
        room.name(0);
        Check.badState(() -> room.bringBack(1, 0));
        Check.pass(room, 0, 1);
        Check.due(0, room.bringBack(1, 0));
        room.crash(0, 1);
        Check.badState(() -> room.bringBack(0, 0));
        Check.pass(room, 1, 0);
        Check.due(0, room.bringBack(0, 0));
    }

    private static void bringBackIsNoProposal() {
        Marginnote room = new Marginnote();
        room.name(0);
        Check.write(room, 0, "ab");
        room.propose(0, true);
        Check.due(2, room.bringBack(0, 0));
        Check.due("", Check.text(room, 0));
        Check.due(0, room.open(0));
    }

    private static void differ() {
        Marginnote room = Check.roomWith("abc");
        room.name(1);
        room.name(0);
        room.erase(0);
        room.name(0);
        room.moveTo(0, 0);
        room.type(0, 'x');
        room.propose(0, true);
        room.type(0, 'y');
        room.name(0);
        Check.due(3, room.differ(0, 1));
        Check.due(3, room.differ(1, 0));
        Check.due(1, room.differ(1, 2));
        // y is only proposed, so it does not show.
        Check.due(1, room.differ(2, 3));
        Check.due(2, room.differ(1, 3));
        Check.due(0, room.differ(3, 3));
        Check.outOfBounds(() -> room.differ(-1, 0));
        Check.outOfBounds(() -> room.differ(0, -1));
        Check.outOfBounds(() -> room.differ(4, 0));
        Check.outOfBounds(() -> room.differ(0, 4));
        // The same number of elements, but others.
        Marginnote others = new Marginnote();
        others.type(0, 'a');
        others.type(1, 'a');
        others.name(0);
        others.name(1);
        Check.due(2, others.differ(0, 1));
    }
}
