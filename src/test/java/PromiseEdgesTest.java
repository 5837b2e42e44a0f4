/**
 * The edges that are named under the promises, and by what is told of places, cursors, messages and
 * journals: empty, none, at the beginning, several, late, twice, lost, also behind a crash.
 */
public final class PromiseEdgesTest {
    /** All that site 0 has comes to all, is safe there, and site 0 hears of it. */
    private static final String ROUND = "pass 0 1; pass 0 2; pass 0 3; save 0; save 1; save 2; save 3; pass 1 0; pass 2 0; pass 3 0; ";

    public static void main(String[] args) {
        newObject();
        cursors();
        cursorsAndCrashes();
        type();
        erase();
        eraseMovesCursors();
        moveToAndExtend();
        markAndComment();
        blocksByPlaces();
        depth();
        propose();
        undo();
        redo();
        messages();
        journals();
        safeActs();
        buried();
        buriedAsItIsKnown();
        versions();
        bringBack();
        differ();
        counts();
        proposed();
        covered();
        acts();
        Story.end();
    }

    private static void newObject() {
        Story story = Story.of("a new object: four sites without acts").says("acts", 0);
        for (int site = 0; site < 4; site++) {
            story.says("has " + site, 0).says("length " + site, 0).says("shown " + site, 0).says("open " + site, 0).says("blocks " + site, 1)
                .says("kind " + site + " 0", 0).says("depth " + site + " 0", 0).says("level " + site + " 0", 0).says("cursor " + site, 0)
                .says("tail " + site, 0).says("graves " + site, 0).says("buried " + site, 0).says("save " + site, 0).says("propose " + site + " off", false);
        }
        story.refuses(Story.BOUNDS, "deliver 0", "differ 0 0", "bringBack 0 0", "act 0", "actAt 0 0", "element 0 0");
    }

    // ---- places and cursors

    private static void cursors() {
        Story.of("cursor and tail are at the beginning, as at first").does("write 0 ab; pass 0 1").says("cursor 1", 0).says("tail 1", 0).does("type 1 x").reads(1, "xab");
        String places = "their places are how many seen elements are at or ahead of that element";
        Story.of(places).does("write 0 abc; select 0 1 2").says("cursor 0", 2).says("tail 0", 1);
        Story.of(places + ": what is PROPOSED is seen").does("write 0 ab; pass 0 1; moveTo 1 2; propose 0 on; moveTo 0 1; type 0 x; pass 0 1").says("cursor 1", 3);
        Story.of(places + ": what is removed is not").does("write 0 abc; pass 0 1; select 1 2 3; moveTo 0 2; erase 0; pass 0 1").says("cursor 1", 2).says("tail 1", 1)
            .does("undo 0; pass 0 1").says("cursor 1", 3).says("tail 1", 2);
        Story.of(places + ": all are graves").does("write 0 ab; pass 0 1; moveTo 1 2; select 0 0 2; erase 0; pass 0 1").says("cursor 1", 0).does("type 1 x").reads(1, "x")
            .does("times 2 undo 0; pass 0 1").reads(1, "abx").says("cursor 1", 3);
        Story.of("the cursor stays behind its element, whatever comes ahead of it").does("write 0 ab; pass 0 1; select 1 0 1; moveTo 0 0; write 0 xy; pass 0 1").reads(1, "xyab").says("cursor 1", 3).says("tail 1", 0);
        Story.of("the cursor stays behind its element: right behind it").does("write 0 ab; pass 0 1; moveTo 1 1; moveTo 0 1; type 0 x; pass 0 1").says("cursor 1", 1).does("type 1 y").reads(1, "ayxb");
    }

    private static void cursorsAndCrashes() {
        String sentence = "if the element behind which one of them stands is lost by a crash, it is at the beginning";
        String room = "write 0 ab; save 0; write 0 cd; ";
        Story.of(sentence + ": both").does(room + "crash 0 1").says("cursor 0", 0).says("tail 0", 0).does("type 0 x").reads(0, "xabc");
        Story.of(sentence + ": the cursor alone").does(room + "select 0 1 4; crash 0 1").says("cursor 0", 0).says("tail 0", 1);
        Story.of(sentence + ": the tail alone").does(room + "select 0 4 1; crash 0 1").says("cursor 0", 1).says("tail 0", 0);
        Story.of(sentence + ": neither").does(room + "select 0 2 3; crash 0 1").says("cursor 0", 3).says("tail 0", 2);
        Story.of(sentence + ": not the last one that is lost").does(room + "select 0 3 2; crash 0 2").says("cursor 0", 2).says("tail 0", 0);
        Story.of(sentence + ": it stays there, when that comes back").does(room + "pass 0 1; crash 0 1").says("deliver 0", 0).does("pass 1 0").reads(0, "abcd").says("cursor 0", 0).says("tail 0", 0);
        Story.of(sentence + ": a grave that is lost").does(room + "erase 0; crash 0 2").says("cursor 0", 0).reads(0, "abc");
        Story.of(sentence + ": not, if it is a grave that is kept").does("write 0 abc; save 0; erase 0; type 0 x; moveTo 0 0; undo 0; crash 0 3").says("cursor 0", 0).reads(0, "abc");
        Story.of(sentence + ": not, if another act is lost").does("write 0 abc; select 0 1 3; setKind 0 0 1; crash 0 1").says("cursor 0", 3).says("tail 0", 1);
        Story.of(sentence + ": not at another site").does("write 0 abc; pass 0 1; moveTo 1 3; crash 0 1").says("cursor 1", 3).says("cursor 0", 0);
    }

    private static void type() {
        Story.of("type: cursor and tail are behind it then").does("write 0 abc; select 0 0 2; type 0 x").reads(0, "abxc").says("cursor 0", 3).says("tail 0", 3)
            .does("select 0 3 1; type 0 y").reads(0, "aybxc").says("cursor 0", 2).says("tail 0", 2);
        Story.of("split: cursor and tail are behind it then").does("write 0 abc; select 0 0 2; split 0").reads(0, "ab/c").says("cursor 0", 3).says("tail 0", 3);
        Story.of("type, split: as a proposal if the site proposes").does("propose 0 on; type 0 a; split 0; propose 0 off; type 0 b; split 0").reads(0, "a+/+b/").says("cursor 0", 4);
        Story.of("type, split: if this site proposes, not another one").does("propose 1 on; type 0 a; type 1 b; split 2").reads(0, "a").reads(1, "b+").reads(2, "/");
        Story.of("type: a space is a letter").says("type 0 _", 0).says("letter 0 0", ' ').says("shown 0", 1);
        Story.of("type: returns the number of the act, which is that of the element").does("write 0 a; erase 0; setKind 0 0 1").says("type 0 b", 3).says("element 0 0", 3).says("split 0", 4).says("element 0 1", 4);
    }

    private static void erase() {
        Story.of("erase: a REMOVE for each of its elements, in the order of the row").does("write 0 ac; moveTo 0 1; type 0 b; select 0 3 0").says("erase 0", 3)
            .says("act 3", 4002).says("act 5", 6002).says("undo 0", 5).reads(0, "c").says("undo 0", 4).reads(0, "bc").says("undo 0", 3).reads(0, "abc");
        Story.of("erase: graves between are not erased again").does("write 0 abc; moveTo 0 2; erase 0; select 0 0 2").says("erase 0", 2).says("acts", 6);
        Story.of("erase: the selection is what is between both, and not the element beside it").does("write 0 abcde; select 0 1 4").says("erase 0", 3).reads(0, "ae");
        String none = "erase: if the selection is empty, for the last seen element at or ahead of that behind which the cursor stands";
        Story.of(none).does("write 0 abc; moveTo 0 2").says("erase 0", 1).reads(0, "ac").says("cursor 0", 1).says("tail 0", 1);
        Story.of(none + ": that is a grave").does("write 0 abc; erase 0").says("erase 0", 1).reads(0, "a").says("erase 0", 1).reads(0, "");
        Story.of(none + ": that is VOID").does("write 0 abc; undo 0").says("erase 0", 1).reads(0, "a");
        Story.of(none + ": the one seen is PROPOSED").does("write 0 a; propose 0 on; type 0 b; propose 0 off; erase 0").reads(0, "a");
        Story.of(none + ": of several seen ones the last").does("write 0 abcd; moveTo 0 3; erase 0; erase 0").reads(0, "ad");
        Story.of("erase: they are proposals, if the site proposes").does("write 0 abc; propose 0 on; select 0 0 2; erase 0").reads(0, "a-b-c").says("open 0", 2)
            .does("propose 0 off; select 0 1 3; erase 0").reads(0, "a-").says("open 0", 1);
        Story.of("erase: they are proposals, if the level is SUGGEST").does("write 0 ab; allow 0 1 SUGGEST; pass 0 1; moveTo 1 2").says("erase 1", 1).reads(1, "ab-");
        Story.of("erase: with the level READ it makes acts that do nothing").does("write 0 ab; allow 0 1 READ; pass 0 1; select 1 0 2").says("erase 1", 2).reads(1, "ab").says("acts", 5).says("cursor 1", 0);
    }

    private static void eraseMovesCursors() {
        String sentence = "erase: if there was a selection, the one of cursor and tail that is farther on stands where the other one stands";
        String room = "write 0 abcd; name 0; ";
        Story.of(sentence + ": the cursor").does(room + "select 0 1 3; erase 0").says("cursor 0", 1).says("tail 0", 1).does("bringBack 0 0").says("cursor 0", 1).says("tail 0", 1);
        Story.of(sentence + ": the tail").does(room + "select 0 3 1; erase 0").says("cursor 0", 1).says("tail 0", 1).does("bringBack 0 0").says("cursor 0", 1).says("tail 0", 1);
        Story.of(sentence + ": at the beginning").does(room + "select 0 2 0; erase 0; bringBack 0 0").says("cursor 0", 0).says("tail 0", 0);
        Story.of(sentence + ": also if they are proposals").does(room + "propose 0 on; select 0 1 3; erase 0").says("cursor 0", 1).says("tail 0", 1);
        Story.of(sentence + ": without one both stay").does(room + "moveTo 0 3; erase 0").says("cursor 0", 2).does("bringBack 0 0").says("cursor 0", 3).says("tail 0", 3);
        // The selection is empty, though cursor and tail stand behind different elements.
        Story.of(sentence + ": one of graves alone is empty").does(room + "pass 0 1; select 0 3 2; moveTo 1 3; erase 1; pass 1 0").says("cursor 0", 2).says("tail 0", 2)
            .says("erase 0", 1).reads(0, "ad").says("cursor 0", 1).does("bringBack 0 0").reads(0, "abcd").says("cursor 0", 2).says("tail 0", 3);
    }

    private static void moveToAndExtend() {
        Story.of("moveTo: moves cursor and tail, and returns the place of the cursor before").does("write 0 abc; select 0 3 1").says("moveTo 0 2", 1).says("cursor 0", 2).says("tail 0", 2).says("moveTo 0 0", 2).says("moveTo 0 3", 0);
        // b is a grave behind a; the cursor comes right behind a, ahead of that.
        String grave = "write 0 abc; pass 0 1; moveTo 1 2; erase 1; pass 1 0; CALL; type 0 x; undo 1; pass 1 0";
        Story.of("moveTo: behind the last one of these").does(grave.replace("CALL", "moveTo 0 1")).reads(0, "axbc");
        Story.of("extend: behind the last one of these").does(grave.replace("CALL", "extend 0 1")).reads(0, "axbc");
        Story.of("moveTo: behind the last one of these: none are").does(grave.replace("CALL", "moveTo 0 0")).reads(0, "xabc");
        Story.of("moveTo, extend: no acts").does("write 0 abc; moveTo 0 1; extend 0 3; extend 0 0").says("acts", 3).says("has 0", 3).says("save 0", 3);
        Story.of("extend: moves the cursor alone, and returns how many elements the selection has then").does("write 0 abc; moveTo 0 1").says("extend 0 3", 2).says("tail 0", 1).says("cursor 0", 3)
            .says("extend 0 1", 0).says("extend 0 0", 1).says("tail 0", 1).says("cursor 0", 0);
        Story.of("extend: the selection is of seen elements").does("write 0 abcd; moveTo 0 3; erase 0; moveTo 0 0").says("extend 0 3", 3);
    }

    private static void markAndComment() {
        Story.of("mark, comment: the selection either way round").does("write 0 abcd; select 0 3 1; mark 0 BOLD on; comment 0; select 0 1 2; mark 0 BOLD off").marks(0, "BOLD", "..x.").says("covered 0 5", 2);
        Story.of("mark: on is whether they get it, or lose it").does("write 0 ab; extend 0 0; mark 0 BOLD off").marks(0, "BOLD", "..").does("mark 0 BOLD on; mark 0 BOLD on").marks(0, "BOLD", "xx").does("mark 0 BOLD off").marks(0, "BOLD", "..");
        Story.of("mark, comment: cursor and tail stay").does("write 0 abc; select 0 2 1; mark 0 LINK on; comment 0").says("cursor 0", 1).says("tail 0", 2);
        Story.of("mark: with the level READ, too, it makes an act").does("write 0 ab; allow 0 1 READ; pass 0 1; select 1 0 2").says("mark 1 BOLD on", 3).marks(1, "BOLD", "..").says("act 3", 4104);
        Story.of("mark: a break has marks, too").does("write 0 a/b; select 0 1 2; mark 0 BOLD on").marks(0, "BOLD", ".x.");
    }

    private static void blocksByPlaces() {
        Story.of("the blocks are told by their places among these that show, the first one being 0").does("write 0 a/b/c; setKind 0 0 1; setKind 0 1 2; setKind 0 2 3")
            .says("kind 0 0", 1).says("kind 0 1", 2).says("kind 0 2", 3).does("moveTo 0 2; erase 0").says("blocks 0", 2).says("kind 0 1", 3).refuses(Story.BOUNDS, "kind 0 2");
        Story.of("the blocks, in the order of the row").does("write 0 ab; split 0; setKind 0 1 1; moveTo 0 1; split 0; setKind 0 1 2; moveTo 0 0; split 0; setKind 0 1 3")
            .says("kind 0 1", 3).says("kind 0 2", 2).says("kind 0 3", 1).says("kind 0 0", 0);
        Story.of("allow: a block of the document of site 0, setKind and nest: of the site's own").does("write 0 a/b; write 1 /; setKind 1 1 3; allow 1 1 READ; pass 0 1").reads(1, "/a/b").says("level 1 1", 0).says("level 1 2", 2)
            .says("kind 1 1", 3).says("kind 1 2", 0).says("level 0 1", 0);
    }

    private static void depth() {
        String sentence = "the depth is how many blocks come by going up from it, those of breaks that do not show left out";
        String room = "write 0 ///; nest 0 1 0; nest 0 2 1; nest 0 3 2; ";
        Story.of(sentence).does(room).says("depth 0 0", 0).says("depth 0 1", 1).says("depth 0 2", 2).says("depth 0 3", 3);
        Story.of(sentence + ": one between").does(room + "moveTo 0 2; erase 0").says("depth 0 1", 1).says("depth 0 2", 2);
        Story.of(sentence + ": several").does(room + "select 0 0 2; erase 0").says("depth 0 1", 1).says("blocks 0", 2);
        Story.of(sentence + ": one that is undone").does("write 1 /; pass 1 0; moveTo 0 1; split 0; nest 0 2 1; nest 0 1 0; pass 0 1").says("depth 1 2", 2).does("undo 1").says("depth 1 1", 1);
        Story.of(sentence + ": the first one shows always").does("write 0 /; nest 0 0 1").says("depth 0 0", 1).says("depth 0 1", 0).does("erase 0").says("depth 0 0", 0);
        Story.of(sentence + ": a block is not left out for what it is under").does("write 0 //; nest 0 0 2; nest 0 1 0").says("depth 0 1", 2).says("depth 0 0", 1);
    }

    private static void propose() {
        Story.of("propose: at first not; returns whether they were before").says("propose 0 off", false).says("propose 0 on", false).says("propose 0 on", true).says("propose 0 off", true).says("propose 0 off", false);
        Story.of("propose: each site for itself, and no act").does("propose 1 on").says("propose 0 off", false).says("propose 1 on", true).says("propose 2 off", false).says("propose 3 off", false).says("acts", 0);
        Story.of("propose: TYPE, SPLIT and REMOVE alone are proposals").does("write 0 a/b; propose 0 on; extend 0 0; mark 0 BOLD on; comment 0; setKind 0 1 2; nest 0 1 0")
            .marks(0, "BOLD", "xxx").says("covered 0 4", 3).says("kind 0 1", 2).says("depth 0 1", 1).says("open 0", 0);
        Story.of("propose: from now on").does("write 0 a; propose 0 on").reads(0, "a").says("open 0", 0).does("type 0 b; propose 0 off").reads(0, "ab+").says("open 0", 1);
        Story.of("propose: a crash does not change it").does("propose 0 on; type 0 a; crash 0 1").says("propose 0 on", true);
    }

    // ---- undo and redo

    private static void undo() {
        String sentence = "undo: the last one, in order, of the acts TYPE to COMMENT that the site made, has, and that is not undone";
        Story.of(sentence).does("write 0 abc").says("undo 0", 2).says("undo 0", 1).says("undo 0", 0).reads(0, "");
        Story.of(sentence + ": redone it is the last one again").does("write 0 ab; undo 0; undo 0; redo 0; redo 0").says("undo 0", 1).says("undo 0", 0);
        Story.of(sentence + ": another site's is not").does("write 0 a; pass 0 1; write 1 bc; pass 1 0").says("undo 0", 0).reads(0, "bc");
        Story.of(sentence + ": one that is lost is not").does("write 0 abc; crash 0 1").says("undo 0", 1);
        Story.of(sentence + ": one that came back is").does("write 0 abc; pass 0 1; crash 0 2; pass 1 0").says("undo 0", 2);
        Story.of(sentence + ": not an act of the kinds ACCEPT to REDO").does("propose 0 on; write 0 ab; decide 0 0 yes; decide 0 1 no; allow 0 1 READ").says("undo 0", 1).says("undo 0", 0).refuses(Story.STATE, "undo 0");
        Story.of(sentence + ": the kind COMMENT is").does("write 0 ab; extend 0 0; comment 0").says("undo 0", 2).says("undo 0", 1);
        Story.of(sentence + ": REMOVE and RESTORE are").does("write 0 ab; name 0; erase 0; bringBack 0 0").says("undo 0", 3).reads(0, "a").says("undo 0", 2).reads(0, "ab").says("undo 0", 1);
        Story.of("undo: returns the act that is undone, not the UNDO").does("write 0 a; setKind 0 0 2").says("undo 0", 1).says("act 2", 3011).says("kind 0 0", 0);
        Story.of("undo: whatever the level").does("write 1 a; pass 1 0; allow 0 1 READ; pass 0 1").says("undo 1", 0).reads(1, "");
    }

    private static void redo() {
        String sentence = "redo: the act of the last UNDO, in order, that the site made, has, and whose act is undone";
        Story.of(sentence).does("write 0 abc; times 3 undo 0").says("redo 0", 0).says("redo 0", 1).says("redo 0", 2).refuses(Story.STATE, "redo 0").reads(0, "abc");
        Story.of(sentence + ": an UNDO whose act is redone is left out").does("write 0 ab; undo 0; undo 0; redo 0").says("redo 0", 1).says("act 5", 6012);
        Story.of(sentence + ": undone again").does("write 0 ab; undo 0; redo 0; undo 0").says("redo 0", 1).refuses(Story.STATE, "redo 0");
        Story.of(sentence + ": an UNDO that is lost is not had").does("write 0 ab; save 0; undo 0; undo 0; crash 0 1").says("redo 0", 1).refuses(Story.STATE, "redo 0");
        Story.of(sentence + ": one that came back is").does("write 0 ab; undo 0; pass 0 1; crash 0 1; pass 1 0").says("redo 0", 1);
        Story.of(sentence + ": a REDO that is lost is not had").does("write 0 a; undo 0; save 0; redo 0; crash 0 1").says("redo 0", 0);
        Story.of(sentence + ": each site its own").does("write 0 a; undo 0; write 1 b; undo 1; pass 0 1; pass 1 0").says("redo 1", 2).says("redo 0", 0);
    }

    // ---- messages and journals

    private static void messages() {
        Story.of("a message has all acts that its sender has when it is sent").does("write 0 a; send 0 1; write 0 b; send 0 1; crash 0 2").says("deliver 0", 1).reads(1, "a").says("deliver 1", 1).reads(1, "ab").says("has 0", 0);
        Story.of("a message has all acts that its sender has: also those of others").does("write 0 a; pass 0 1; write 1 b; pass 1 2").says("has 2", 2).reads(2, "ba");
        Story.of("a message of one who has no acts").does("write 1 a").says("send 0 1", 0).says("deliver 0", 0).reads(1, "a");
        Story.of("a message comes to its receiver alone").does("write 0 a; send 0 2; deliver 0").says("has 1", 0).says("has 2", 1).says("has 3", 0);
        Story.of("a message that does not come").does("write 0 a; send 0 1").says("has 1", 0).says("save 1", 0);
        Story.of("deliver: it may come again later").does("write 0 ab; send 0 1").says("deliver 0", 2).says("deliver 0", 0).does("crash 1 1").says("deliver 0", 1).does("crash 1 2").says("deliver 0", 2).reads(1, "ab").says("save 1", 2).says("deliver 0", 0).says("save 1", 0);
        Story.of("deliver: an earlier message comes behind a later one").does("write 0 a; send 0 1; write 0 b; send 0 1; write 0 c").says("deliver 1", 2).says("deliver 0", 0).reads(1, "ab");
        Story.of("deliver: how many acts are new there").does("write 0 abc; send 0 1; write 1 xy; pass 1 0").says("deliver 0", 3).does("pass 0 1").says("has 1", 5).does("type 0 d").says("has 0", 6).does("send 0 1").says("deliver 3", 1);
    }

    private static void journals() {
        String sentence = "the journal has the acts that come with a message and are new to it, in their order";
        // The numbers go 0 1 2 for site 1, 3 4 for site 0: in order 3 0 4 1 2.
        Story.of(sentence).does("write 1 xyz; write 0 ab; pass 1 0; send 0 2; deliver 1").says("has 2", 5).says("crash 2 1", 4).refuses(Story.BOUNDS, "isUndone 2 2")
            .says("crash 2 1", 3).refuses(Story.BOUNDS, "isUndone 2 1").says("crash 2 1", 2).refuses(Story.BOUNDS, "isUndone 2 4").says("crash 2 1", 1).reads(2, "a");
        Story.of(sentence + ", behind those that it has").does("write 1 xyz; write 0 a; pass 0 1").says("crash 1 1", 3).reads(1, "xyz").says("crash 1 1", 2).reads(1, "xy");
        Story.of(sentence + ": those that are not new keep their place").does("write 0 ab; pass 0 1; write 1 x; pass 0 1").says("crash 1 1", 2).reads(1, "ab");
        Story.of("crash: a lost act that comes again is the last one then").does("write 0 ab; pass 0 1; moveTo 1 2; write 1 cd; pass 1 0; crash 1 1; type 1 e; pass 0 1").says("has 1", 5).reads(1, "eabcd").says("crash 1 1", 4).reads(1, "eabc");
        Story.of("crash: returns how many acts it has then").does("write 0 abc; pass 0 1; type 1 d").says("crash 1 2", 2).reads(1, "ab").says("has 0", 3);
    }

    private static void safeActs() {
        Story.of("save: returns how many were not safe").says("save 0", 0).does("write 0 abc").says("save 0", 3).says("save 0", 0).does("write 0 d").says("save 0", 1);
        Story.of("save: all acts that it has are safe").does("write 0 ab; write 1 x; pass 0 1").says("save 1", 3).refuses(Story.ARGUMENT, "crash 1 1").says("crash 1 0", 3).does("type 1 y").says("crash 1 1", 3);
        Story.of("save: of this journal, not of others").does("write 0 ab; pass 0 1; save 0").says("crash 1 2", 0).refuses(Story.ARGUMENT, "crash 0 1");
        Story.of("save, behind a crash").does("write 0 abc; save 0; write 0 de; crash 0 1").says("save 0", 1).refuses(Story.ARGUMENT, "crash 0 1").says("has 0", 4);
    }

    private static void buried() {
        String sentence = "a grave is buried if it is one in the site's document, and in that of all acts of which it knows that all four sites have them";
        String room = "write 0 ab; erase 0; ";
        Story.of(sentence).does(room + ROUND).says("graves 0", 1).says("buried 0", 1).says("buried 1", 0).does("pass 0 1").says("buried 1", 1).says("buried 2", 0);
        Story.of(sentence + ": nobody told anything").does(room).says("graves 0", 1).says("buried 0", 0).does("save 0").says("buried 0", 0);
        for (int lazy = 0; lazy < 4; lazy++) {
            Story.of(sentence + ": one did not save").does(room + ROUND.replace("save " + lazy + "; ", "")).says("buried 0", 0);
        }
        for (int silent = 1; silent < 4; silent++) {
            Story.of(sentence + ": one did not tell").does(room + ROUND.replace("pass " + silent + " 0; ", "")).says("buried 0", 0).does("pass " + silent + " 0").says("buried 0", 1);
            Story.of(sentence + ": one does not have it").does(room + ROUND.replace("pass 0 " + silent + "; ", "")).says("buried 0", 0);
        }
        Story.of(sentence + ": one has the letter, but not that it is removed").does("write 0 ab; pass 0 3; erase 0; " + ROUND.replace("pass 0 3; ", "")).says("graves 0", 1).says("buried 0", 0);
        Story.of(sentence + ": what is VOID").does("write 0 ab; undo 0; " + ROUND).says("graves 0", 1).says("buried 0", 1);
        Story.of(sentence + ": what is VOID by a REFUSE").does("propose 0 on; write 0 ab; decide 0 1 no; " + ROUND).says("graves 0", 1).says("buried 0", 1);
        Story.of(sentence + ": what is PROPOSED is seen").does("propose 0 on; write 0 ab; " + ROUND).says("buried 0", 0).says("graves 0", 0);
        Story.of(sentence + ": what is PROPOSED and removed").does("propose 0 on; write 0 ab; erase 0; " + ROUND).says("buried 0", 1).says("graves 0", 1);
        Story.of(sentence + ": it is none in the site's document any more").does(room + ROUND + "undo 0").says("graves 0", 0).says("buried 0", 0).does("redo 0").says("buried 0", 1);
        // a is VOID where the ALLOW is known, but PLAIN in the document of what all four are known to have: a alone.
        Story.of(sentence + ": in that of all acts of which it knows it is none").does("allow 0 1 READ; type 1 a; pass 1 0; pass 1 2; pass 1 3; save 0; save 1; save 2; save 3; pass 2 1; pass 3 1; pass 0 1")
            .says("graves 1", 1).says("buried 1", 0).does("pass 0 2; pass 0 3; save 1; save 2; save 3; pass 1 0; pass 2 0; pass 3 0").says("buried 0", 1).says("buried 1", 0).says("buried 0", 1);
        Story.of(sentence + ": a further one is known here alone").does(room + ROUND + "erase 0").says("graves 0", 2).says("buried 0", 1).does(ROUND).says("buried 0", 2);
    }

    private static void buriedAsItIsKnown() {
        String knows = "a site knows that it has an act itself if the act is safe there, and of others if it was told so";
        String room = "write 0 ab; erase 0; ";
        Story.of(knows + " by a message: of what is not safe nobody tells").does(room + "pass 0 1; pass 0 2; pass 0 3; save 0; save 1; save 2; pass 1 0; pass 2 0; pass 3 0; save 3").says("buried 0", 0).does("pass 3 0").says("buried 0", 1);
        Story.of(knows + " by a message: of what its sender knew when it was sent").does(room + "pass 0 1; send 1 0; save 1; pass 0 2; pass 0 3; save 0; save 2; save 3; pass 2 0; pass 3 0; deliver 1").says("buried 0", 0).does("pass 1 0").says("buried 0", 1);
        Story.of(knows + " by a message: also of third ones").does(room + "pass 0 1; pass 0 2; pass 0 3; save 0; save 1; save 2; save 3; pass 1 2; pass 2 3").says("buried 3", 0).does("pass 0 3").says("buried 3", 1).says("buried 2", 0);
        Story.of(knows + ": a later message that tells of less takes nothing away").does(room + "pass 0 1; send 1 0; " + ROUND).says("buried 0", 1).says("deliver 1", 0).says("buried 0", 1);
        String crash = "a site was told so by a message, also behind a crash";
        Story.of(crash).does(room + ROUND.replace("save 0; ", "") + "crash 0 3").says("has 0", 0).says("graves 0", 0).says("buried 0", 0).says("deliver 3", 3).says("buried 0", 0).does("save 0").says("buried 0", 1);
        Story.of(crash + ": of others").does(room + "pass 0 1; pass 0 2; pass 0 3; save 0; save 1; save 2; pass 1 0; pass 2 0; pass 0 3; crash 3 3").says("buried 3", 0)
            .does("pass 1 3").says("buried 3", 0).does("save 3").says("buried 3", 1);
        // Of the act behind those that are known everywhere only site 0 knows.
        Story.of(knows + ": a part of the acts").does("write 0 abc; erase 0; erase 0; save 0; pass 0 1; pass 0 2; pass 0 3; save 1; save 2; crash 3 1; save 3; pass 1 0; pass 2 0; pass 3 0")
            .says("graves 0", 2).says("buried 0", 1);
    }

    // ---- versions

    private static void versions() {
        Story.of("name: the acts that a site has now, which stay so").does("write 0 ab; name 0; erase 0; crash 0 3; name 0; pass 0 1").says("differ 0 1", 2).refuses(Story.STATE, "bringBack 0 0");
        Story.of("name: a version of no acts").says("name 3", 0).does("write 3 ab").says("bringBack 3 0", 2).reads(3, "");
        Story.of("name: versions are for all sites").does("write 0 ab; name 0; pass 0 1; erase 0; pass 0 1").says("bringBack 1 0", 1).reads(1, "ab").says("name 1", 1);
    }

    private static void bringBack() {
        Story.of("bringBack: nothing differs, so no act is made").does("write 0 ab; name 0").says("bringBack 0 0", 0).says("acts", 2);
        Story.of("bringBack: through the row, a REMOVE and a RESTORE").does("write 0 abc; name 0; moveTo 0 2; erase 0; moveTo 0 0; type 0 x; moveTo 0 3; type 0 y").reads(0, "xacy")
            .says("bringBack 0 0", 3).reads(0, "abc").says("act 6", 7002).says("act 7", 8003).says("act 8", 9002).says("undo 0", 8).says("undo 0", 7).says("undo 0", 6).reads(0, "xacy");
        Story.of("bringBack: a REMOVE for each that shows there, but not in the version").does("name 0; write 0 ab; propose 0 on; type 0 c").says("bringBack 0 0", 2).reads(0, "c+").says("open 0", 1);
        Story.of("bringBack: none of them is a proposal").does("name 0; propose 0 on; write 0 ab; decide 0 0 yes").says("bringBack 0 0", 1).reads(0, "b+").says("graves 0", 1);
        Story.of("bringBack: what is PROPOSED in the version does not show in it").does("propose 0 on; type 0 a; name 0; decide 0 0 yes").says("bringBack 0 0", 1).reads(0, "");
        Story.of("bringBack: cursor and tail stay").does("write 0 abc; name 0; select 0 1 3; erase 0; moveTo 0 0; extend 0 1").says("bringBack 0 0", 2).says("cursor 0", 1).says("tail 0", 0);
        Story.of("bringBack: breaks, too, with the kinds of their blocks").does("write 0 a/b; setKind 0 1 3; name 0; select 0 1 3; erase 0").says("bringBack 0 0", 2).reads(0, "a/b").says("kind 0 1", 3);
        Story.of("bringBack: marks stay as they are").does("write 0 ab; name 0; extend 0 0; mark 0 BOLD on").says("bringBack 0 0", 0).marks(0, "BOLD", "xx");
    }

    private static void differ() {
        Story.of("differ: a version from itself").does("write 0 ab; name 0").says("differ 0 0", 0);
        Story.of("differ: either way round").does("write 0 abc; name 0; select 0 0 2; erase 0; moveTo 0 1; type 0 x; name 0").says("differ 0 1", 3).says("differ 1 0", 3);
        Story.of("differ: what is only PROPOSED does not show").does("name 0; propose 0 on; write 0 ab; name 0; decide 0 0 yes; name 0").says("differ 0 1", 0).says("differ 1 2", 1).says("differ 0 2", 1);
        Story.of("differ: the acts differ, the elements that show do not").does("write 0 ab; name 0; erase 0; undo 0; setKind 0 0 1; name 0").says("differ 0 1", 0);
        Story.of("differ: of two sites that share nothing").does("write 0 ab; write 1 abc; name 0; name 1").says("differ 0 1", 5).says("differ 1 0", 5);
        Story.of("differ: by the documents of the versions, not of their sites").does("write 0 ab; name 0; name 0; erase 0; crash 0 3").says("differ 0 1", 0);
    }

    // ---- questions

    private static void counts() {
        Story.of("length, shown, graves: none, some, all").says("length 0", 0).says("shown 0", 0).says("graves 0", 0).does("propose 0 on; type 0 a").says("length 0", 1).says("shown 0", 0).says("graves 0", 0)
            .does("decide 0 0 yes").says("shown 0", 1).does("propose 0 off; erase 0").says("length 0", 0).says("shown 0", 0).says("graves 0", 1);
        Story.of("element, elementAnew: 0 for the first one").does("write 0 bc; moveTo 0 0; type 0 a").says("element 0 0", 2).says("elementAnew 0 0", 2).says("element 0 1", 0).says("elementAnew 0 1", 0).says("element 0 2", 1).says("elementAnew 0 2", 1);
        Story.of("elementAnew: the same, by doing all acts anew, which changes nothing").does("write 0 ab; undo 0; moveTo 0 0; type 0 c; pass 0 1").says("elementAnew 0 0", 3).says("elementAnew 1 1", 0).says("element 0 1", 0).says("cursor 0", 1).says("element 1 0", 3);
        Story.of("letter: / for a break").does("write 0 a/; propose 0 on; split 0").says("letter 0 0", 'a').says("letter 0 1", '/').says("letter 0 2", '/');
        Story.of("blocks: the first one shows always").says("blocks 0", 1).does("split 0").says("blocks 0", 2).does("erase 0").says("blocks 0", 1);
        Story.of("open: none, and each of several for one element").says("open 0", 0).does("write 0 a; propose 0 on; erase 0").says("open 0", 1).does("erase 0").says("open 0", 2);
    }

    private static void proposed() {
        Story.of("proposed: 0 for nothing, 1 if it is PROPOSED").does("write 0 a; propose 0 on; type 0 b").says("proposed 0 0", 0).says("proposed 0 1", 1);
        Story.of("proposed: 2 more for an open proposal to remove it").does("write 0 a; propose 0 on; type 0 b; pass 0 1; propose 1 on; select 1 0 2; erase 1").says("proposed 1 0", 2).says("proposed 1 1", 3).says("proposed 0 0", 0).says("proposed 0 1", 1);
        Story.of("proposed: or several").does("write 0 a; propose 0 on; erase 0; erase 0; erase 0").says("proposed 0 0", 2).does("decide 0 2 no").says("proposed 0 0", 2).does("decide 0 1 no").says("proposed 0 0", 2).does("decide 0 3 no").says("proposed 0 0", 0);
        Story.of("proposed: of this element, not of that beside it").does("write 0 abc; moveTo 0 2; propose 0 on; erase 0").says("proposed 0 0", 0).says("proposed 0 1", 2).says("proposed 0 2", 0);
    }

    private static void covered() {
        Story.of("covered: 0 if it is undone, or they are gone").does("write 0 ab; extend 0 0; comment 0").says("covered 0 2", 2).does("undo 0").says("covered 0 2", 0).does("redo 0; erase 0").says("covered 0 2", 0)
            .does("undo 0").says("covered 0 2", 1);
        Story.of("covered: what is VOID is gone").does("write 0 ab; pass 0 1; select 1 1 2; comment 1; undo 0; pass 0 1").says("covered 1 2", 0);
        Story story = Story.of("covered: NONE if the act is no COMMENT").does("write 0 a/; name 0; erase 0; bringBack 0 0; select 0 0 2; mark 0 BOLD on; setKind 0 0 1; nest 0 1 0; propose 0 on; type 0 x; type 0 y; "
            + "decide 0 7 yes; decide 0 8 no; allow 0 1 READ; undo 0; redo 0");
        for (int act = 0; act < 14; act++) {
            story.says("covered 0 " + act, -1);
        }
        Story.of("covered: a comment on each of two selections").does("write 0 abc; select 0 0 1; comment 0; select 0 1 3; comment 0").says("covered 0 3", 1).says("covered 0 4", 2);
    }

    private static void acts() {
        Story.of("acts: how many were made, whoever has them").says("acts", 0).does("write 0 ab; type 3 c; crash 3 1").says("acts", 3).does("pass 0 1").says("acts", 3);
        Story.of("has: none, all").says("has 0", 0).does("write 0 ab; write 1 c").says("has 0", 2).says("has 1", 1).does("pass 0 1").says("has 1", 3).does("crash 1 3").says("has 1", 0);
        Story.of("act: 1000 times its count, 100 times the site, and its kind").does("type 3 a; undo 3; redo 3").says("act 0", 1300).says("act 1", 2311).says("act 2", 3312);
        Story.of("isUndone: UNDO, REDO and decisions never are").does("propose 0 on; write 0 ab; decide 0 0 yes; decide 0 1 no; allow 0 1 READ; undo 0; redo 0").says("isUndone 0 2", false).says("isUndone 0 3", false)
            .says("isUndone 0 4", false).says("isUndone 0 5", false).says("isUndone 0 6", false).says("isUndone 0 1", false);
    }
}
