/**
 * Each line of each throws clause: just inside its bound, at it, and outside; which line decides if
 * several apply; and that the room is as it was before a call that is refused.
 */
public final class RefusalsTest {
    private static final String[] NO_SITES = {"-1", "4", "MIN", "MAX"};
    private static final String[] NO_NUMBERS = {"-1", "MIN", "MAX"};

    public static void main(String[] args) {
        sites();
        type();
        split();
        erase();
        moveTo();
        extend();
        mark();
        comment();
        setKind();
        nest();
        decide();
        decideByLevel();
        allow();
        undo();
        redo();
        send();
        deliver();
        crash();
        name();
        bringBack();
        differ();
        places();
        isMarked();
        actsThatASiteHas();
        blocks();
        actAt();
        act();
        Story.end();
    }

    /** SITE wrote a text with a proposal and an act that is undone, and selects two letters. */
    private static String roomOf(int site) {
        return ("write SITE ab/c; name SITE; propose SITE on; type SITE x; propose SITE off; "
            + "type SITE y; undo SITE; select SITE 0 2").replace("SITE", "" + site);
    }

    private static void sites() {
        String[] calls = {"type SITE z", "split SITE", "erase SITE", "moveTo SITE 0", "extend SITE 1", "mark SITE BOLD on",
            "comment SITE", "setKind SITE 0 0", "nest SITE 0 NONE", "propose SITE on", "decide SITE 4 yes", "undo SITE",
            "redo SITE", "save SITE", "crash SITE 0", "name SITE", "bringBack SITE 0", "length SITE", "shown SITE",
            "element SITE 0", "elementAnew SITE 0", "letter SITE 0", "proposed SITE 4", "open SITE", "isMarked SITE 0 BOLD",
            "covered SITE 0", "blocks SITE", "kind SITE 0", "depth SITE 0", "level SITE 0", "cursor SITE", "tail SITE",
            "graves SITE", "buried SITE", "has SITE", "actAt SITE 0", "isUndone SITE 5"};
        int[] due = {7, 7, 2, 2, 1, 7, 7, 7, 7, 0, 7, 4, 5, 7, 7, 1, 0, 5, 4, 0, 0, 'a', 1, 1, 0, -1, 2, 0, 0, 0, 2, 0, 1,
            0, 7, 0, 1};
        Check.due(calls.length, due.length);
        for (int i = 0; i < calls.length; i++) {
            String name = calls[i].substring(0, calls[i].indexOf(' '));
            boolean isTold = name.equals("propose") || name.equals("isMarked") || name.equals("isUndone");
            String sentence = name + ": throws IndexOutOfBoundsException if there is no such site; there are the sites 0 to 3";
            for (int site = 0; site < 4; site++) {
                Story story = Story.of(sentence).does(roomOf(site));
                String call = calls[i].replace("SITE", "" + site);
                if (isTold) {
                    story.says(call, due[i] == 1);
                } else {
                    story.says(call, due[i]);
                }
            }
            Story story = Story.of(sentence).does(roomOf(0));
            for (String site : NO_SITES) {
                story.refuses(Story.BOUNDS, calls[i].replace("SITE", site));
            }
        }
    }

    // ---- writing

    private static void type() {
        Story inside = Story.of("type: letter is a to z, or a space");
        int next = 0;
        for (String letter : new String[] {"a", "b", "m", "y", "z", "_"}) {
            inside.says("type 0 " + letter, next);
            next++;
        }
        inside.reads(0, "abmyz ");
        // The signs beside these; then those that would be one of these in eight bits.
        Story.of("type: IllegalArgumentException if letter is none of these").does("write 0 ab; moveTo 0 1")
            .refuses(Story.ARGUMENT, "type 0 #96", "type 0 #123", "type 0 #31", "type 0 #33", "type 0 A", "type 0 Z", "type 0 /",
                "type 0 #0", "type 0 #65535", "type 0 #353", "type 0 #378", "type 0 #288", "type 0 #32865");
        Story.of("type: the first line that applies decides").does("write 0 ab; allow 0 1 READ; pass 0 1")
            .refuses(Story.BOUNDS, "type 4 A", "type -1 A")
            .refuses(Story.ARGUMENT, "type 1 A")
            .refuses(Story.STATE, "type 1 a");
        readAtTheCursor("type 1 x", "type 2 x");
    }

    private static void split() {
        readAtTheCursor("split 1", "split 2");
    }

    private static void readAtTheCursor(String call, String other) {
        String sentence = call.substring(0, 5).trim() + ": IllegalStateException if the site has the level READ in the block of the cursor's element";
        String room = "write 0 ab/cd; allow 1 1 READ; allow 0 2 READ; allow 1 2 SUGGEST; pass 0 1; pass 0 2; ";
        for (int place : new int[] {0, 1, 2}) {
            Story.of(sentence + ": another block").does(room + "moveTo 1 " + place).says(call, 8);
            Story.of(sentence + " (the first one at the beginning)").does(room + "moveTo 2 " + place).refuses(Story.STATE, other);
        }
        for (int place : new int[] {3, 4, 5}) {
            Story.of(sentence + ": a break's own block").does(room + "moveTo 1 " + place).refuses(Story.STATE, call);
            Story.of(sentence + ": SUGGEST is enough").does(room + "moveTo 2 " + place).says(other, 8);
        }
        String ahead = "write 0 /a; allow 1 1 READ; pass 0 1; moveTo 1 ";
        Story.of(sentence + ": a break at the very beginning").does(ahead + 0).says(call, 3);
        for (int place : new int[] {1, 2}) {
            Story.of(sentence + ": a break at the very beginning").does(ahead + place).refuses(Story.STATE, call);
        }
        Story.of(sentence + ", also as a proposal").does(room + "moveTo 1 4; propose 1 on").refuses(Story.STATE, call);
        Story.of(sentence + ", not the tail's").does(room + "select 1 1 4").refuses(Story.STATE, call);
        Story.of(sentence + ", not the tail's").does(room + "select 1 4 1").says(call, 8);
        // Behind a grave: it is in the block in which it would be seen.
        Story.of(sentence + ", that being a grave").does(room + "moveTo 0 4; erase 0; moveTo 1 4; pass 0 1").refuses(Story.STATE, call);
        // By its own document: it did not hear of the level yet.
        Story.of(sentence + ", by its document").does("write 0 a; pass 0 1; allow 0 1 READ; moveTo 1 1").says(call, 2);
        Story.of(sentence + ", by its document").does("write 0 a; pass 0 1; allow 0 1 READ; moveTo 1 1; pass 0 1").refuses(Story.STATE, call);
    }

    private static void erase() {
        String sentence = "erase: IllegalStateException if there is no element to erase";
        Story.of(sentence + ": an empty document").refuses(Story.STATE, "erase 0", "erase 3");
        Story.of(sentence + ": at the beginning").does("write 0 ab; moveTo 0 0").refuses(Story.STATE, "erase 0");
        Story.of(sentence + ": one is").does("write 0 ab; moveTo 0 1").says("erase 0", 1).refuses(Story.STATE, "erase 0").reads(0, "b");
        Story.of(sentence + ": nothing but graves ahead").does("write 0 abc; select 0 0 2; erase 0; select 0 0 1; undo 0; undo 0; moveTo 0 2; erase 0; erase 0")
            .says("cursor 0", 0).refuses(Story.STATE, "erase 0").reads(0, "c");
        Story.of(sentence + ": at the beginning with a selection").does("write 0 ab; select 0 1 0").says("erase 0", 1).reads(0, "b");
    }

    private static void moveTo() {
        String sentence = "moveTo: IndexOutOfBoundsException if place is below 0 or above length()";
        Story.of(sentence + ": an empty document").says("moveTo 0 0", 0).refuses(Story.BOUNDS, "moveTo 0 1", "moveTo 0 -1");
        Story story = Story.of(sentence).does("write 0 abc; select 0 1 2");
        story.refuses(Story.BOUNDS, "moveTo 0 -1", "moveTo 0 4", "moveTo 0 MIN", "moveTo 0 MAX");
        story.says("moveTo 0 3", 2).says("moveTo 0 2", 3).says("moveTo 0 0", 2).says("moveTo 0 1", 0);
        Story.of(sentence + ": what is removed does not count").does("write 0 abc; erase 0").says("moveTo 0 2", 2).refuses(Story.BOUNDS, "moveTo 0 3");
        Story.of(sentence + ": what is PROPOSED does").does("propose 0 on; write 0 abc; erase 0").says("moveTo 0 2", 2).refuses(Story.BOUNDS, "moveTo 0 3");
        Story.of(sentence + ", by the document of the site").does("write 0 abc; pass 0 1; write 0 d").says("moveTo 1 3", 0).refuses(Story.BOUNDS, "moveTo 1 4");
    }

    private static void extend() {
        String sentence = "extend: IndexOutOfBoundsException if place is below 0 or above length()";
        Story.of(sentence + ": an empty document").says("extend 0 0", 0).refuses(Story.BOUNDS, "extend 0 1", "extend 0 -1");
        Story story = Story.of(sentence).does("write 0 abc; select 0 1 2");
        story.refuses(Story.BOUNDS, "extend 0 -1", "extend 0 4", "extend 0 MIN", "extend 0 MAX");
        story.says("extend 0 3", 2).says("extend 0 2", 1).says("extend 0 1", 0).says("extend 0 0", 1);
        Story.of(sentence + ", by the document of the site").does("write 0 abc; pass 0 1; write 0 d").says("extend 1 3", 3).refuses(Story.BOUNDS, "extend 1 4");
    }

    private static void mark() {
        String sentence = "mark: IllegalArgumentException if mark is neither";
        Story story = Story.of(sentence).does("write 0 ab; select 0 0 1");
        story.refuses(Story.ARGUMENT, "mark 0 -1 on", "mark 0 2 on", "mark 0 32 on", "mark 0 33 off", "mark 0 MIN on", "mark 0 MAX off");
        story.says("mark 0 0 on", 2).says("mark 0 1 on", 3).marks(0, "BOLD", "x.").marks(0, "LINK", "x.");
        Story.of("mark: IllegalStateException if the selection is empty").does("write 0 ab; moveTo 0 1")
            .refuses(Story.STATE, "mark 0 BOLD on", "mark 0 LINK off", "mark 1 BOLD on")
            .does("extend 0 0").says("mark 0 BOLD on", 2);
        Story.of("mark: IllegalStateException if the selection is empty: of graves").does("write 0 abc; select 0 1 2; times 2 undo 0; times 2 redo 0; pass 0 1; "
            + "moveTo 1 2; erase 1; pass 1 0").says("cursor 0", 1).says("tail 0", 1).refuses(Story.STATE, "mark 0 BOLD on");
        Story.of("mark: the first line that applies decides").does("write 0 ab")
            .refuses(Story.BOUNDS, "mark 4 2 on").refuses(Story.ARGUMENT, "mark 0 2 on").refuses(Story.STATE, "mark 0 1 on");
    }

    private static void comment() {
        Story.of("comment: IllegalStateException if the selection is empty").refuses(Story.STATE, "comment 0")
            .does("write 0 ab").refuses(Story.STATE, "comment 0", "comment 1")
            .does("extend 0 1").says("comment 0", 2).says("covered 0 2", 1);
    }

    private static void setKind() {
        String room = "write 0 a/b; select 0 1 2; setKind 0 1 2";
        Story.of("setKind: IndexOutOfBoundsException if there is no such block").does(room)
            .refuses(Story.BOUNDS, "setKind 0 -1 1", "setKind 0 2 1", "setKind 0 MIN 1", "setKind 0 MAX 1", "setKind 1 1 1")
            .says("setKind 0 0 1", 4).says("setKind 0 1 1", 5).says("setKind 1 0 1", 6);
        Story.of("setKind: kind is 0 to 3, else IllegalArgumentException").does(room)
            .refuses(Story.ARGUMENT, "setKind 0 1 -1", "setKind 0 1 4", "setKind 0 1 MIN", "setKind 0 1 MAX")
            .says("setKind 0 1 3", 4).says("kind 0 1", 3).says("setKind 0 1 0", 5).says("kind 0 1", 0);
        String levels = "write 0 a/b; allow 0 1 SUGGEST; allow 1 2 READ; pass 0 1; pass 0 2";
        Story.of("setKind: IllegalStateException if the site does not have the level WRITE in it").does(levels)
            .refuses(Story.STATE, "setKind 1 0 1", "setKind 2 1 1").says("setKind 1 1 1", 5).says("setKind 2 0 1", 6)
            .does("allow 0 1 WRITE").refuses(Story.STATE, "setKind 1 0 1").does("pass 0 1").says("setKind 1 0 1", 8);
        Story.of("setKind: the first line that applies decides").does(levels)
            .refuses(Story.BOUNDS, "setKind 4 9 9", "setKind 1 2 4").refuses(Story.ARGUMENT, "setKind 1 0 4").refuses(Story.STATE, "setKind 1 0 3");
    }

    private static void nest() {
        String room = "write 0 a/b; nest 0 1 0; moveTo 0 2";
        Story.of("nest: IndexOutOfBoundsException if there is no such block").does(room)
            .refuses(Story.BOUNDS, "nest 0 -1 0", "nest 0 2 0", "nest 0 MIN NONE", "nest 0 MAX NONE", "nest 1 1 0")
            .says("nest 0 1 NONE", 4).says("nest 0 0 1", 5).says("depth 0 0", 1).says("depth 0 1", 0);
        Story.of("nest: IndexOutOfBoundsException if there is no such under, that not being NONE").does(room)
            .refuses(Story.BOUNDS, "nest 0 1 -2", "nest 0 1 2", "nest 0 1 MIN", "nest 0 1 MAX", "nest 1 0 1")
            .says("depth 0 1", 1).says("nest 0 1 NONE", 4).says("depth 0 1", 0).says("nest 0 1 0", 5).says("depth 0 1", 1)
            .says("nest 0 0 1", 6).says("nest 1 0 0", 7);
        String levels = "write 0 a/b; allow 0 1 SUGGEST; allow 1 2 READ; pass 0 1; pass 0 2";
        Story.of("nest: IllegalStateException if the site does not have the level WRITE in block").does(levels)
            .refuses(Story.STATE, "nest 1 0 1", "nest 1 0 NONE", "nest 2 1 0", "nest 2 1 NONE")
            .says("nest 1 1 0", 5).says("nest 2 0 1", 6).says("depth 1 1", 1).says("depth 2 0", 1);
        Story.of("nest: the first line that applies decides").does(levels)
            .refuses(Story.BOUNDS, "nest 4 0 0", "nest 1 0 2", "nest 1 0 -2", "nest 1 2 0").refuses(Story.STATE, "nest 1 0 1");
    }

    private static void decide() {
        // a, b PROPOSED, a proposal to remove a, a mark.
        String room = "write 0 a; propose 0 on; write 0 b; moveTo 0 1; erase 0; select 0 0 1; mark 0 BOLD on";
        Story.of("decide: IndexOutOfBoundsException if there is no such act, or the site does not have it").does(room + "; type 1 z")
            .refuses(Story.BOUNDS, "decide 0 -1 yes", "decide 0 5 no", "decide 0 MIN yes", "decide 0 MAX no", "decide 0 4 yes", "decide 1 1 yes")
            .says("decide 0 1 yes", 5);
        Story.of("decide: IndexOutOfBoundsException if the site lost the act").does(room + "; save 0; write 0 c; crash 0 1")
            .refuses(Story.BOUNDS, "decide 0 4 yes").says("decide 0 2 no", 5);
        String closed = "decide: IllegalStateException if it is no open proposal in the site's document";
        Story.of(closed).does(room).refuses(Story.STATE, "decide 0 0 yes", "decide 0 0 no", "decide 0 3 yes", "decide 0 3 no")
            .reads(0, "a-b+").says("decide 0 2 yes", 4).refuses(Story.STATE, "decide 0 2 no", "decide 0 4 no").reads(0, "b+")
            .says("decide 0 1 no", 5).refuses(Story.STATE, "decide 0 1 yes", "decide 0 1 no", "decide 0 5 yes").reads(0, "");
        Story.of(closed + ": it is refused").does(room).says("decide 0 2 no", 4).refuses(Story.STATE, "decide 0 2 yes").reads(0, "ab+");
        Story.of(closed + ": it is PLAIN").does(room).says("decide 0 1 yes", 4).refuses(Story.STATE, "decide 0 1 yes").reads(0, "a-b");
        Story.of(closed + ": its element is removed").does(room + "; propose 0 off; erase 0; moveTo 0 1; erase 0")
            .refuses(Story.STATE, "decide 0 1 yes", "decide 0 2 no").reads(0, "");
        Story.of(closed + ": it is undone").does(room + "; times 3 undo 0").refuses(Story.STATE, "decide 0 1 yes", "decide 0 2 no").reads(0, "a");
        Story.of(closed + ": the REMOVE removed it at once").does("write 0 ab; erase 0").refuses(Story.STATE, "decide 0 2 yes", "decide 0 2 no");
        Story.of(closed + ": it is by another site's").does(room + "; pass 0 1; decide 1 1 yes").refuses(Story.STATE, "decide 1 1 no").says("decide 0 1 no", 5);
    }

    private static void decideByLevel() {
        // The proposals of site 0 are in the second block but one, which is in the first block.
        String room = "write 0 a/b; propose 0 on; write 0 c; moveTo 0 3; erase 0; moveTo 0 1; erase 0; propose 0 off; "
            + "allow 1 1 SUGGEST; allow 1 2 READ; pass 0 1; pass 0 2; pass 0 3";
        String sentence = "decide: IllegalStateException if the site does not have the level WRITE in the block of its element";
        Story.of(sentence).does(room).reads(1, "a-/b-c+")
            .refuses(Story.STATE, "decide 1 3 yes", "decide 1 4 no", "decide 2 3 no", "decide 2 4 yes")
            .says("decide 1 5 yes", 8).says("decide 2 5 no", 9).says("decide 3 3 yes", 10).says("decide 3 4 yes", 11)
            .reads(1, "/b-c+").reads(2, "a/b-c+").reads(3, "a-/c");
        Story.of("decide: the first line that applies decides").does(room)
            .refuses(Story.BOUNDS, "decide 4 0 yes", "decide 1 8 yes").refuses(Story.STATE, "decide 1 0 yes", "decide 1 3 yes");
        // A break that is only proposed is in the block ahead of it; PLAIN it is in its own.
        Story.of(sentence + ": of a break that does not show").does("write 0 a; propose 0 on; split 0; allow 0 1 READ; pass 0 1")
            .refuses(Story.STATE, "decide 1 1 yes").says("decide 0 1 yes", 3);
    }

    private static void allow() {
        String room = "write 0 a/b; allow 1 1 SUGGEST; write 1 x; pass 0 2";
        Story.of("allow: IndexOutOfBoundsException if there is no such block, by the document of site 0").does(room)
            .refuses(Story.BOUNDS, "allow -1 1 READ", "allow 2 1 READ", "allow MIN 2 READ", "allow MAX 3 READ")
            .says("allow 0 1 READ", 5).says("allow 1 1 READ", 6);
        Story.of("allow: other is 1 to 3, else IndexOutOfBoundsException").does(room)
            .refuses(Story.BOUNDS, "allow 0 0 READ", "allow 0 4 READ", "allow 0 -1 READ", "allow 0 MIN READ", "allow 0 MAX READ")
            .says("allow 0 1 READ", 5).says("allow 0 2 READ", 6).says("allow 0 3 READ", 7)
            .does("pass 0 1; pass 0 2; pass 0 3").says("level 1 0", 2).says("level 2 0", 2).says("level 3 0", 2);
        Story.of("allow: IllegalArgumentException if level is out of range").does(room)
            .refuses(Story.ARGUMENT, "allow 1 1 -1", "allow 1 1 3", "allow 1 1 MIN", "allow 1 1 MAX")
            .says("allow 1 1 0", 5).says("allow 1 2 2", 6).says("allow 1 3 1", 7)
            .does("pass 0 1; pass 0 2; pass 0 3").says("level 1 1", 0).says("level 2 1", 2).says("level 3 1", 1);
        Story.of("allow: the first line that applies decides").does(room)
            .refuses(Story.BOUNDS, "allow 2 1 3", "allow 0 4 3", "allow 0 0 -1").refuses(Story.ARGUMENT, "allow 0 1 3");
    }

    private static void undo() {
        String sentence = "undo: IllegalStateException if there is none";
        Story.of(sentence + ": a new object").refuses(Story.STATE, "undo 0", "undo 3");
        Story.of(sentence + ": all are undone").does("write 0 ab").says("undo 0", 1).says("undo 0", 0).refuses(Story.STATE, "undo 0")
            .says("redo 0", 0).says("undo 0", 0).refuses(Story.STATE, "undo 0");
        Story.of(sentence + ": others made all").does("write 0 ab; pass 0 1").refuses(Story.STATE, "undo 1").does("type 1 x").says("undo 1", 2).refuses(Story.STATE, "undo 1");
        Story.of(sentence + ": it does not have it any more").does("write 0 ab; crash 0 1").says("undo 0", 0).refuses(Story.STATE, "undo 0")
            .does("crash 0 2").refuses(Story.STATE, "undo 0");
        Story.of(sentence + ": it is undone by what came with a message").does("write 0 a; undo 0; pass 0 1; crash 0 1").says("isUndone 0 0", false)
            .does("pass 1 0").says("isUndone 0 0", true).refuses(Story.STATE, "undo 0");
        Story.of(sentence + " of the kinds TYPE to COMMENT").does("propose 1 on; write 1 ab; pass 1 0; decide 0 0 yes; decide 0 1 no; allow 0 1 READ")
            .refuses(Story.STATE, "undo 0");
    }

    private static void redo() {
        String sentence = "redo: IllegalStateException if there is none";
        Story.of(sentence + ": a new object").refuses(Story.STATE, "redo 0", "redo 3");
        Story.of(sentence + ": nothing is undone").does("write 0 ab").refuses(Story.STATE, "redo 0").does("undo 0").says("redo 0", 1).refuses(Story.STATE, "redo 0");
        Story.of(sentence + ": another site made the UNDO").does("write 0 ab; undo 0; pass 0 1").refuses(Story.STATE, "redo 1");
        Story.of(sentence + ": the UNDO is lost").does("write 0 ab; undo 0; crash 0 1").refuses(Story.STATE, "redo 0");
        String behind = "redo: IllegalStateException if the site made and has an act of the kinds TYPE to COMMENT behind that UNDO";
        String[] writing = {"type 0 x", "split 0", "erase 0", "setKind 0 0 1", "nest 0 0 NONE", "extend 0 0; mark 0 BOLD on", "extend 0 0; comment 0"};
        for (String calls : writing) {
            Story.of(behind).does("write 0 abc; undo 0; " + calls).refuses(Story.STATE, "redo 0");
        }
        Story.of(behind + ": a RESTORE").does("write 0 ab; name 0; erase 0; undo 0; moveTo 0 1; type 0 x; crash 0 1").says("redo 0", 2)
            .does("undo 0; bringBack 0 0").says("redo 0", 2).does("bringBack 0 0").refuses(Story.STATE, "redo 0");
        Story.of(behind + ", also if that is undone").does("write 0 abc; undo 0; type 0 x; undo 0").says("redo 0", 4).refuses(Story.STATE, "redo 0");
        Story.of(behind + ": one that is lost does not count").does("write 0 abc; undo 0; type 0 x; crash 0 1").says("redo 0", 2);
        Story.of(behind + ": another site's does not count").does("write 0 abc; undo 0; pass 0 1; write 1 x; pass 1 0").says("redo 0", 2);
        Story.of(behind + ": ACCEPT, REFUSE and ALLOW do not count")
            .does("propose 1 on; write 1 xy; pass 1 0; write 0 a; undo 0; allow 0 1 READ; decide 0 0 yes; decide 0 1 no").says("redo 0", 2);
    }

    // ---- messages, journals, versions

    private static void send() {
        String sentence = "send: IndexOutOfBoundsException if there is no such site, from or to";
        Story story = Story.of(sentence).does("write 0 a");
        for (String site : NO_SITES) {
            story.refuses(Story.BOUNDS, "send 0 " + site, "send " + site + " 0", "send " + site + " " + site);
        }
        int next = 0;
        for (int from = 0; from < 4; from++) {
            for (int to = 0; to < 4; to++) {
                String call = "send " + from + " " + to;
                if (from == to) {
                    Story.of("send: IllegalArgumentException if both are the same").does("write 0 a; send 0 1").refuses(Story.ARGUMENT, call);
                } else {
                    story.says(call, next);
                    next++;
                }
            }
        }
    }

    private static void deliver() {
        Story.of("deliver: IndexOutOfBoundsException if there is no such message: none was sent").does("write 0 a")
            .refuses(Story.BOUNDS, "deliver 0", "deliver -1", "deliver 79", "deliver 80");
        Story story = Story.of("deliver: IndexOutOfBoundsException if there is no such message").does("write 0 ab; send 0 1; type 0 c; send 0 2");
        story.refuses(Story.BOUNDS, "deliver 2");
        for (String message : NO_NUMBERS) {
            story.refuses(Story.BOUNDS, "deliver " + message);
        }
        story.says("deliver 1", 3).says("deliver 0", 2);
    }

    private static void crash() {
        String sentence = "crash: acts is 0 up to how many are not safe, else IllegalArgumentException";
        Story.of(sentence + ": there are none").says("crash 0 0", 0).refuses(Story.ARGUMENT, "crash 0 1", "crash 0 -1", "crash 0 MIN", "crash 0 MAX");
        Story.of(sentence).does("write 0 ab; save 0; write 0 cde")
            .refuses(Story.ARGUMENT, "crash 0 4", "crash 0 5", "crash 0 6", "crash 0 -1", "crash 0 MIN", "crash 0 MAX")
            .says("crash 0 0", 5).says("crash 0 1", 4).refuses(Story.ARGUMENT, "crash 0 3").says("crash 0 2", 2).refuses(Story.ARGUMENT, "crash 0 1")
            .says("crash 0 0", 2).reads(0, "ab");
        Story.of("crash: the first line that applies decides").does("write 0 a").refuses(Story.BOUNDS, "crash 4 2", "crash -1 -1").refuses(Story.ARGUMENT, "crash 0 2");
    }

    private static void name() {
        Story story = Story.of("name: IllegalStateException if there are 10").does("write 0 a");
        for (int version = 0; version < 10; version++) {
            story.says("name " + version % 4, version);
        }
        story.refuses(Story.STATE, "name 0", "name 3").refuses(Story.BOUNDS, "name 4").says("differ 8 9", 1);
    }

    private static void bringBack() {
        String sentence = "bringBack: IndexOutOfBoundsException if there is no such version";
        Story.of(sentence + ": none was named").does("write 0 a").refuses(Story.BOUNDS, "bringBack 0 0", "bringBack 0 -1", "bringBack 0 9", "bringBack 0 10");
        Story.of(sentence).does("write 0 a; name 0; write 0 b; name 0; write 0 c")
            .refuses(Story.BOUNDS, "bringBack 0 -1", "bringBack 0 2", "bringBack 0 MIN", "bringBack 0 MAX")
            .says("bringBack 0 1", 1).says("bringBack 0 0", 1);
        String lacks = "bringBack: IllegalStateException if the site does not have all acts of the version";
        Story.of(lacks + ": it has none").does("write 0 ab; name 0").refuses(Story.STATE, "bringBack 1 0").does("pass 0 1").says("bringBack 1 0", 0);
        Story.of(lacks + ": it lacks the very first one").does("type 0 a; name 0; type 1 x").refuses(Story.STATE, "bringBack 1 0").says("bringBack 0 0", 0);
        Story.of(lacks + ": it has all but one").does("write 0 ab; send 0 1; type 0 c; name 0; deliver 0").refuses(Story.STATE, "bringBack 1 0")
            .does("pass 0 1").says("bringBack 1 0", 0);
        Story.of(lacks + ": it lost one").does("write 0 abc; name 0; erase 0; pass 0 1; crash 0 2").refuses(Story.STATE, "bringBack 0 0").says("bringBack 1 0", 1);
        Story.of(lacks + ": a version without acts").does("name 0; write 1 ab").says("bringBack 2 0", 0).says("bringBack 1 0", 2);
        Story.of("bringBack: the first line that applies decides").does("write 0 ab; name 0").refuses(Story.BOUNDS, "bringBack 4 0", "bringBack 1 1").refuses(Story.STATE, "bringBack 1 0");
    }

    private static void differ() {
        String sentence = "differ: IndexOutOfBoundsException if there is no such version, of either";
        Story.of(sentence + ": none was named").refuses(Story.BOUNDS, "differ 0 0");
        Story story = Story.of(sentence).does("write 0 a; name 0; write 0 b; name 0");
        story.refuses(Story.BOUNDS, "differ 0 2", "differ 2 0", "differ 2 2", "differ 9 1", "differ 1 10");
        for (String version : NO_NUMBERS) {
            story.refuses(Story.BOUNDS, "differ 0 " + version, "differ " + version + " 1");
        }
        story.says("differ 0 1", 1).says("differ 1 0", 1).says("differ 0 0", 0).says("differ 1 1", 0);
    }

    // ---- documents of sites, acts

    private static void places() {
        for (String name : new String[] {"element", "elementAnew", "letter", "proposed"}) {
            String sentence = name + ": IndexOutOfBoundsException if there is no such place";
            Story.of(sentence + ": an empty document").does("write 0 a").refuses(Story.BOUNDS, name + " 1 0", name + " 1 -1");
            // b is a grave, so there are two places.
            Story story = Story.of(sentence).does("write 0 abc; moveTo 0 2; erase 0");
            story.refuses(Story.BOUNDS, name + " 0 2", name + " 0 3");
            for (String place : NO_NUMBERS) {
                story.refuses(Story.BOUNDS, name + " 0 " + place);
            }
            boolean isLetter = name.equals("letter");
            boolean isNumber = name.startsWith("element");
            story.says(name + " 0 0", isLetter ? (int) 'a' : 0).says(name + " 0 1", isLetter ? (int) 'c' : isNumber ? 2 : 0);
        }
    }

    private static void isMarked() {
        Story.of("isMarked: IndexOutOfBoundsException if there is no such place").does("write 0 ab; select 0 0 2; mark 0 BOLD on")
            .refuses(Story.BOUNDS, "isMarked 0 2 BOLD", "isMarked 0 -1 BOLD", "isMarked 0 MIN LINK", "isMarked 0 MAX LINK", "isMarked 1 0 BOLD")
            .says("isMarked 0 0 BOLD", true).says("isMarked 0 1 BOLD", true);
        Story.of("isMarked: IllegalArgumentException if mark is neither").does("write 0 ab; select 0 0 2; mark 0 BOLD on; comment 0")
            .refuses(Story.ARGUMENT, "isMarked 0 0 -1", "isMarked 0 0 2", "isMarked 0 0 32", "isMarked 0 0 33", "isMarked 0 0 MIN", "isMarked 0 0 MAX")
            .says("isMarked 0 0 0", true).says("isMarked 0 0 1", false);
        Story.of("isMarked: the first line that applies decides").does("write 0 ab")
            .refuses(Story.BOUNDS, "isMarked 4 0 2", "isMarked 0 2 2", "isMarked 0 -1 -1").refuses(Story.ARGUMENT, "isMarked 0 1 2");
    }

    private static void actsThatASiteHas() {
        String room = "write 0 ab; select 0 0 2; comment 0; type 1 x; write 0 c; crash 0 1";
        Story.of("covered: IndexOutOfBoundsException if there is no such act, or the site does not have it").does(room)
            .refuses(Story.BOUNDS, "covered 0 -1", "covered 0 3", "covered 0 4", "covered 0 5", "covered 0 MIN", "covered 0 MAX", "covered 1 2", "covered 2 0")
            .says("covered 0 2", 2).says("covered 0 0", -1).says("covered 1 3", -1);
        Story.of("isUndone: IndexOutOfBoundsException if there is no such act, or the site does not have it").does(room + "; undo 0")
            .refuses(Story.BOUNDS, "isUndone 0 -1", "isUndone 0 3", "isUndone 0 4", "isUndone 0 6", "isUndone 0 MIN", "isUndone 0 MAX", "isUndone 1 2", "isUndone 2 0")
            .says("isUndone 0 2", true).says("isUndone 0 0", false).says("isUndone 0 5", false).says("isUndone 1 3", false);
    }

    private static void blocks() {
        for (String name : new String[] {"kind", "depth", "level"}) {
            String sentence = name + ": IndexOutOfBoundsException if there is no such block";
            Story.of(sentence + ": a new object").says(name + " 1 0", 0).refuses(Story.BOUNDS, name + " 1 1", name + " 1 -1");
            // A break that is removed and one that is only proposed are no blocks that show.
            Story story = Story.of(sentence).does("write 0 a/b/c; moveTo 0 2; erase 0; propose 0 on; split 0");
            story.refuses(Story.BOUNDS, name + " 0 2", name + " 0 3");
            for (String block : NO_NUMBERS) {
                story.refuses(Story.BOUNDS, name + " 0 " + block);
            }
            story.says(name + " 0 0", 0).says(name + " 0 1", 0).refuses(Story.BOUNDS, name + " 1 1");
        }
    }

    private static void actAt() {
        Story story = Story.of("actAt: IndexOutOfBoundsException if the site does not have so many").does("write 0 abc; crash 0 1; type 1 x");
        story.refuses(Story.BOUNDS, "actAt 0 2", "actAt 0 3", "actAt 1 1", "actAt 2 0");
        for (String place : NO_NUMBERS) {
            story.refuses(Story.BOUNDS, "actAt 0 " + place);
        }
        story.says("actAt 0 0", 0).says("actAt 0 1", 1).says("actAt 1 0", 3);
    }

    private static void act() {
        Story.of("act: IndexOutOfBoundsException if there is no such act: none was made").refuses(Story.BOUNDS, "act 0", "act -1");
        Story story = Story.of("act: IndexOutOfBoundsException if there is no such act").does("write 0 ab; type 3 c; crash 3 1");
        story.refuses(Story.BOUNDS, "act 3");
        for (String act : NO_NUMBERS) {
            story.refuses(Story.BOUNDS, "act " + act);
        }
        story.says("act 0", 1000).says("act 1", 2000).says("act 2", 1300);
    }
}
