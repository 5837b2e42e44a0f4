/** The sentences under "Terms" that name an edge: at the beginning, at the end, none, the same, late, twice, lost. */
public final class TermEdgesTest {
    public static void main(String[] args) {
        numbersAndCounts();
        orderOfActs();
        actsOfSites();
        undoneActs();
        row();
        statesOfElements();
        blocksOfElements();
        levels();
        newElementsByLevel();
        newElementsWithBold();
        newElementsWithLinks();
        newElementsUnderComments();
        newBreaks();
        undoneDoNothing();
        remove();
        restore();
        mark();
        kind();
        nest();
        comment();
        acceptAndRefuse();
        openProposals();
        allow();
        Story.end();
    }

    // ---- acts

    private static void numbersAndCounts() {
        Story.of("acts are numbered from 0 as they are made, wherever that is").says("type 2 a", 0).says("type 0 b", 1).says("split 3", 2)
            .does("crash 2 1").says("type 2 c", 3);
        Story.of("a count is 1 for the first act of a site").does("type 3 a; type 0 b; type 2 c; type 1 d")
            .says("act 0", 1300).says("act 1", 1000).says("act 2", 1200).says("act 3", 1100);
        Story.of("a count is 1 for the first act of a site: what was sent, but did not come, is not had").does("write 0 ab; send 0 1; type 1 c").says("act 2", 1100);
        String greatest = "a count is 1 more than the greatest count of all acts that this site has had so far";
        Story.of(greatest + ": another site's").does("write 0 abc; write 1 x; pass 0 1; type 1 y").says("act 4", 4100);
        Story.of(greatest + ": its own").does("write 1 abc; write 0 x; pass 0 1; type 1 y").says("act 4", 4100);
        Story.of(greatest + ": both the same").does("write 1 ab; write 0 xy; pass 0 1; type 1 z").says("act 4", 3100);
        Story.of(greatest + ": the last one of its row of messages is not the greatest").does("write 0 abc; write 2 x; pass 0 1; pass 2 1; type 1 y").says("act 4", 4100);
        String lost = "a count: what the site lost counts, too";
        Story.of(lost).does("write 0 abc; crash 0 3; type 0 d").says("act 3", 4000).says("has 0", 1);
        Story.of(lost + ": that came with a message").does("write 0 abc; pass 0 1; crash 1 3; type 1 d").says("act 3", 4100).says("has 1", 1);
        Story.of(lost + ": the last one alone").does("write 0 abc; crash 0 1; type 0 d; crash 0 1; type 0 e").says("act 3", 4000).says("act 4", 5000).reads(0, "eab");
    }

    private static void orderOfActs() {
        Story.of("acts are ordered by their counts, whichever site").does("write 3 ab; write 0 c; pass 3 2; pass 0 2")
            .says("actAt 2 0", 2).says("actAt 2 1", 0).says("actAt 2 2", 1);
        Story.of("acts with the same count are ordered by their sites, not by their numbers").does("type 3 a; type 1 b; type 2 c; type 0 d; pass 3 0; pass 1 0; pass 2 0")
            .says("actAt 0 0", 3).says("actAt 0 1", 1).says("actAt 0 2", 2).says("actAt 0 3", 0).reads(0, "acbd");
        Story.of("that is their order everywhere, however they came").does("write 0 ab; write 3 xy; pass 0 1; pass 3 1; pass 3 2; pass 0 2")
            .reads(1, "xyab").reads(2, "xyab").says("actAt 1 1", 2).says("actAt 2 1", 2).says("actAt 1 2", 1).says("actAt 2 2", 1);
        // The act of site 1 has the lower count, so it is done first, though it comes last.
        Story.of("acts are done in their order, however late they come").does("write 0 a; pass 0 1; setKind 0 0 1; moveTo 0 1; type 0 x; moveTo 1 1; type 1 y")
            .reads(0, "ax").reads(1, "ay").does("pass 0 1; pass 1 0").reads(0, "axy").reads(1, "axy");
    }

    private static void actsOfSites() {
        Story.of("a site has the acts that it made, and those that came, less those that it lost").says("has 1", 0).does("write 1 ab; write 0 c").says("has 1", 2)
            .does("pass 0 1").says("has 1", 3).does("crash 1 1").says("has 1", 2).does("crash 1 2").says("has 1", 0).does("pass 0 1").says("has 1", 1);
        Story.of("the document of a site is that of the acts that it has").does("write 0 ab; pass 0 1; erase 0; moveTo 1 2; type 1 c").reads(0, "a").reads(1, "abc").reads(2, "")
            .does("pass 1 0").reads(0, "ac").does("crash 0 1").reads(0, "a").does("crash 0 1").reads(0, "ab");
        // Site 2 hears of b from site 1 alone, and so it hears of a as well.
        Story.of("whatever a site has, it has also all that is named by that").does("write 0 a; pass 0 1; moveTo 1 1; type 1 b; pass 1 2").says("has 2", 2).reads(2, "ab");
    }

    private static void undoneActs() {
        String sentence = "an act is undone if the last one in order of the acts UNDO and REDO that name it is an UNDO";
        Story.of(sentence).does("write 0 a").says("isUndone 0 0", false).does("undo 0").says("isUndone 0 0", true)
            .does("redo 0").says("isUndone 0 0", false).does("undo 0").says("isUndone 0 0", true);
        Story.of(sentence + ": of those in the set").does("write 0 a; pass 0 1; undo 0").says("isUndone 0 0", true).says("isUndone 1 0", false)
            .does("pass 0 1").says("isUndone 1 0", true).does("redo 0").says("isUndone 1 0", true).does("pass 0 1").says("isUndone 1 0", false)
            .does("crash 1 1").says("isUndone 1 0", true).does("crash 1 1").says("isUndone 1 0", false);
        Story.of(sentence + ": another act's do not count").does("write 0 ab; undo 0").says("isUndone 0 0", false).does("undo 0; redo 0").says("isUndone 0 0", false).says("isUndone 0 1", true);
        // Of an UNDO that site 0 lost, the message comes last.
        Story.of(sentence + ": in order, not as they come").does("write 0 a; save 0; undo 0; send 0 1; crash 0 1; undo 0; redo 0; pass 0 1")
            .says("isUndone 1 0", false).says("deliver 0", 1).says("isUndone 1 0", false).says("length 1", 1);
        Story.of(sentence + ": in order, not as they come").does("write 0 a; save 0; undo 0; redo 0; send 0 1; crash 0 2; undo 0; pass 0 1")
            .says("isUndone 1 0", true).says("deliver 0", 2).says("isUndone 1 0", true).says("length 1", 0);
    }

    // ---- the row

    private static void row() {
        Story.of("a row of elements, empty at first").says("length 0", 0).says("shown 0", 0).says("graves 0", 0).says("open 0", 0).says("blocks 0", 1);
        Story.of("an act names none, if the element comes at the beginning").does("write 0 ab; moveTo 0 0; type 0 x; moveTo 0 0; split 0").reads(0, "/xab");
        Story.of("right behind that element, so ahead of all that was put there before").does("write 0 ab; moveTo 0 1; type 0 x; moveTo 0 1; type 0 y; moveTo 0 4; type 0 z").reads(0, "ayxbz");
        Story.of("right behind that element, that being a grave").does("write 0 abc; moveTo 0 2; pass 0 1; moveTo 1 2; erase 1; pass 1 0; type 0 x").reads(0, "axc")
            .does("undo 1; pass 1 0").reads(0, "abxc");
        Story.of("an element never leaves the row: it is VOID").does("write 0 ab; moveTo 0 1; type 0 v; pass 0 1; moveTo 1 2; undo 0; pass 0 1").reads(1, "ab").says("cursor 1", 1)
            .does("type 1 x; pass 1 0; redo 0").reads(0, "avxb").does("pass 0 1").reads(1, "avxb");
        Story.of("an element never leaves the row: it is removed").does("write 0 ab; name 0; select 0 0 2; erase 0; type 0 x").reads(0, "x").says("graves 0", 2)
            .does("bringBack 0 0").reads(0, "ab").says("graves 0", 1);
    }

    private static void statesOfElements() {
        String shows = "an element shows if it is PLAIN and not removed; it is seen if it is PLAIN or PROPOSED, and not removed";
        Story.of(shows + ": PLAIN").does("type 0 a").says("shown 0", 1).says("length 0", 1).says("graves 0", 0)
            .does("erase 0").says("shown 0", 0).says("length 0", 0).says("graves 0", 1);
        Story.of(shows + ": PROPOSED").does("propose 0 on; type 0 a").says("shown 0", 0).says("length 0", 1).says("graves 0", 0)
            .does("erase 0").says("shown 0", 0).says("length 0", 0).says("graves 0", 1);
        Story.of(shows + ": VOID").does("type 0 a; undo 0").says("shown 0", 0).says("length 0", 0).says("graves 0", 1);
        Story.of(shows + ": a proposal to remove it is open").does("type 0 a; propose 0 on; erase 0").says("shown 0", 1).says("length 0", 1).says("graves 0", 0);
        String voided = "VOID, for good";
        Story.of(voided + ": RESTORE does not bring it back").does("write 0 ab; name 0; undo 0").says("bringBack 0 0", 1).reads(0, "a").says("graves 0", 1);
        Story.of(voided + ": ACCEPT behind REFUSE does nothing").does("propose 0 on; write 0 a; pass 0 1; decide 0 0 no; decide 1 0 yes; pass 0 1; pass 1 0")
            .reads(0, "").reads(1, "").says("graves 0", 1).says("has 0", 3);
        Story.of(voided + ": PLAIN is not VOID by a late REFUSE").does("propose 0 on; write 0 a; pass 0 1; decide 0 0 yes; decide 1 0 no; pass 0 1; pass 1 0")
            .reads(0, "a").reads(1, "a").says("graves 0", 0);
    }

    private static void blocksOfElements() {
        String sentence = "an element is in the block of the last break that shows at or ahead of it, otherwise in the first one";
        // Site 1 may not write in the first block, site 2 not in that of the first break.
        String room = "write 0 a/b/c; allow 0 1 READ; allow 1 2 READ; pass 0 1; pass 0 2; ";
        Story.of(sentence).does(room + "select 1 0 5; mark 1 BOLD on; select 2 0 5; mark 2 BOLD on").marks(1, "BOLD", ".xxxx").marks(2, "BOLD", "x..xx");
        Story.of(sentence + ": a break that is removed").does(room + "moveTo 0 2; erase 0; pass 0 1; pass 0 2; select 1 0 4; mark 1 BOLD on; select 2 0 4; mark 2 BOLD on")
            .marks(1, "BOLD", "..xx").marks(2, "BOLD", "xxxx");
        Story.of(sentence + ": a break that is undone").does("write 0 ab; moveTo 0 1; split 0; allow 0 1 READ; pass 0 1; select 1 0 3; mark 1 BOLD on").marks(1, "BOLD", ".xx")
            .does("undo 0; pass 0 1").marks(1, "BOLD", "..");
        Story.of(sentence + ": a break that is only proposed").does("write 0 ab; moveTo 0 1; propose 0 on; split 0; allow 0 1 READ; pass 0 1; select 1 0 3; mark 1 BOLD on").marks(1, "BOLD", "...")
            .does("decide 0 2 yes; pass 0 1; mark 1 BOLD on").marks(1, "BOLD", ".xx");
        Story.of(sentence + ": a break at the very beginning").does("write 0 /a; allow 0 1 READ; allow 1 2 READ; pass 0 1; pass 0 2; select 1 0 2; mark 1 BOLD on; select 2 0 2; mark 2 BOLD on")
            .marks(1, "BOLD", "xx").marks(2, "BOLD", "..");
    }

    private static void levels() {
        String first = "a site has a level in a block: WRITE, at first";
        Story story = Story.of(first).does("write 0 a/b; pass 0 1; pass 0 2; pass 0 3");
        for (int site = 0; site < 4; site++) {
            story.says("level " + site + " 0", 0).says("level " + site + " 1", 0);
        }
        Story.of(first + ": in a new block, too").does("write 0 ab; allow 0 1 READ; moveTo 0 1; split 0; pass 0 1").says("level 1 0", 2).says("level 1 1", 0);
        Story.of("the level is as the last act ALLOW for both tells").does("write 0 a/b; allow 1 1 READ; allow 1 1 SUGGEST; allow 1 2 READ; allow 0 1 READ; pass 0 1; pass 0 2; pass 0 3")
            .says("level 1 1", 1).says("level 1 0", 2).says("level 2 1", 2).says("level 2 0", 0).says("level 3 0", 0).says("level 3 1", 0)
            .does("allow 1 1 WRITE; pass 0 1").says("level 1 1", 0);
        Story.of("the level is as the last act ALLOW tells: one that is lost tells nothing").does("write 0 a; pass 0 1; allow 0 1 READ; pass 0 1").says("level 1 0", 2).does("crash 1 1").says("level 1 0", 0).says("type 1 x", 2);
        Story.of("the level is as the last act ALLOW tells that is done so far: what comes ahead of it in order is done with WRITE").does("write 0 a; pass 0 1; setKind 0 0 1; allow 0 1 READ; type 1 x; pass 0 1").reads(1, "xa")
            .does("undo 0; pass 0 1").reads(1, "xa").says("level 1 0", 2);
        Story.of("the level is as the last act ALLOW tells that is done so far").does("write 0 a; pass 0 1; allow 0 1 READ; moveTo 1 1; type 1 x; type 1 y; allow 0 1 WRITE; type 1 z; pass 0 1")
            .reads(1, "ayz").says("graves 1", 1).says("level 1 0", 0);
        Story.of("site 0 has WRITE everywhere").does("propose 0 on; write 0 a/b").says("level 0 0", 0).refuses(Story.BOUNDS, "allow 0 0 READ")
            .says("decide 0 1 yes", 3).says("level 0 1", 0).says("setKind 0 1 1", 4);
    }

    // ---- TYPE and SPLIT

    private static void newElementsByLevel() {
        Story.of("TYPE: VOID if the act is undone").does("write 0 ab; undo 0").reads(0, "a").says("graves 0", 1);
        Story.of("SPLIT: VOID if the act is undone").does("write 0 a/; undo 0").reads(0, "a").says("graves 0", 1).says("blocks 0", 1);
        Story.of("VOID if the act is undone, also if the level is SUGGEST").does("allow 0 1 SUGGEST; pass 0 1; type 1 a").reads(1, "a+").does("undo 1").reads(1, "").says("open 1", 0).says("graves 1", 1);
        // x is behind a, in the first block; y behind the break; z behind b.
        String late = "write 0 a/b; pass 0 1; allow 1 1 LEVEL; moveTo 1 1; type 1 x; moveTo 1 3; split 1; moveTo 1 5; type 1 z; pass 0 1; pass 1 0";
        Story.of("VOID if the level in the block of the element behind which it comes is READ").does(late.replace("LEVEL", "READ")).reads(1, "ax/b").reads(0, "ax/b").says("graves 1", 2);
        Story.of("PROPOSED if that level is SUGGEST").does(late.replace("LEVEL", "SUGGEST")).reads(1, "ax//+bz+").reads(0, "ax//+bz+").says("graves 1", 0).says("blocks 1", 2);
        Story.of("otherwise PLAIN").does(late.replace("LEVEL", "WRITE")).reads(1, "ax//bz").says("graves 1", 0).says("blocks 1", 3);
        // By its turn b is in the block of the new break, where the level is WRITE.
        Story.of("the level in the block of the element behind which it comes, as it is by then").does("write 0 ab; pass 0 1; allow 0 1 READ; type 1 x; moveTo 1 3; type 1 y; "
            + "moveTo 0 1; split 0; pass 0 1").reads(1, "a/by").says("graves 1", 1);
        Story.of("the first block, if none is named").does("write 0 /a; pass 0 1; pass 0 2; allow 0 1 READ; allow 1 2 READ; type 1 x; type 2 y; pass 0 1; pass 0 2").reads(1, "/a").reads(2, "y/a");
        Story.of("the first block, if none is named: SUGGEST").does("allow 0 1 SUGGEST; pass 0 1; type 1 a").reads(1, "a+");
        Story.of("PROPOSED if the act was made as a proposal").does("propose 0 on; write 0 a/; propose 0 off; write 0 b/").reads(0, "a+/+b/").says("blocks 0", 2);
        Story.of("PROPOSED: both").does("allow 0 1 SUGGEST; pass 0 1; propose 1 on; type 1 a").reads(1, "a+").says("open 1", 1);
    }

    private static void newElementsWithBold() {
        String sentence = "a new element has BOLD if the element right ahead of it in the row has it";
        String room = "write 0 abcd; select 0 1 3; mark 0 BOLD on; ";
        Story.of(sentence + ": behind the first one that has not").does(room + "moveTo 0 1; type 0 x").marks(0, "BOLD", "..xx.");
        Story.of(sentence + ": between").does(room + "moveTo 0 2; type 0 x").marks(0, "BOLD", ".xxx.");
        Story.of(sentence + ": behind the last one").does(room + "moveTo 0 3; type 0 x; split 0").marks(0, "BOLD", ".xxxx.");
        Story.of(sentence + ": behind that").does(room + "moveTo 0 4; type 0 x").marks(0, "BOLD", ".xx..");
        Story.of(sentence + ": there is none ahead").does("write 0 a; extend 0 0; mark 0 BOLD on; moveTo 0 0; type 0 x").marks(0, "BOLD", ".x");
        Story.of(sentence + ": there is none behind").does("write 0 a; extend 0 0; mark 0 BOLD on; moveTo 0 1; type 0 x").marks(0, "BOLD", "xx");
        Story.of(sentence + ": that is removed").does(room + "moveTo 0 3; erase 0; type 0 x").reads(0, "abxd").marks(0, "BOLD", ".xx.");
        // v is VOID and has BOLD; x comes behind it, ahead of d.
        Story.of(sentence + ": that is VOID").does(room + "moveTo 0 3; type 0 v; pass 0 1; moveTo 1 4; undo 0; pass 0 1; type 1 x").reads(1, "abcxd").marks(1, "BOLD", ".xxx.");
        // Between c, which is bold, and x, there is v, which is not.
        Story.of(sentence + ", not the last one seen").does(room + "moveTo 0 4; type 0 v; pass 0 1; undo 0; moveTo 1 5; pass 0 1; moveTo 0 3; erase 0; pass 0 1; moveTo 0 2; erase 0; pass 0 1; type 1 x")
            .reads(1, "adx").marks(1, "BOLD", "...");
        Story.of(sentence + ": by then").does("write 0 ab; pass 0 1; moveTo 1 1; type 1 x; extend 0 0; mark 0 BOLD on; select 0 0 1; mark 0 BOLD off; pass 0 1; pass 1 0").reads(1, "axb").marks(1, "BOLD", ".xx");
    }

    private static void newElementsWithLinks() {
        String sentence = "a new element has LINK if the elements right ahead of it and right behind it in the row both have it";
        String room = "write 0 abcd; select 0 1 3; mark 0 LINK on; ";
        Story.of(sentence + ": behind alone").does(room + "moveTo 0 1; type 0 x").marks(0, "LINK", "..xx.");
        Story.of(sentence + ": both").does(room + "moveTo 0 2; type 0 x; split 0").marks(0, "LINK", ".xxxx.");
        Story.of(sentence + ": ahead alone").does(room + "moveTo 0 3; type 0 x").marks(0, "LINK", ".xx..");
        Story.of(sentence + ": neither").does(room + "moveTo 0 4; type 0 x").marks(0, "LINK", ".xx..");
        String all = "write 0 ab; extend 0 0; mark 0 LINK on; ";
        Story.of(sentence + ": none ahead").does(all + "type 0 x").reads(0, "xab").marks(0, "LINK", ".xx");
        Story.of(sentence + ": none behind").does(all + "moveTo 0 2; type 0 x").marks(0, "LINK", "xx.");
        Story.of(sentence + ": of two links").does("write 0 ab; select 0 0 1; mark 0 LINK on; select 0 1 2; mark 0 LINK on; moveTo 0 1; type 0 x").marks(0, "LINK", "xxx");
        Story.of(sentence + ": the one behind is removed").does(room + "pass 0 1; moveTo 1 3; erase 1; moveTo 1 2; type 1 x").reads(1, "abxd").marks(1, "LINK", ".xx.");
        Story.of(sentence + ": LINK and BOLD").does(room + "mark 0 BOLD on; moveTo 0 3; type 0 x").marks(0, "LINK", ".xx..").marks(0, "BOLD", ".xxx.");
    }

    private static void newElementsUnderComments() {
        String sentence = "a comment covers a new element if it covers both of these";
        String room = "write 0 abcd; select 0 1 3; comment 0; ";
        Story.of(sentence + ": behind alone").does(room + "moveTo 0 1; type 0 x").says("covered 0 4", 2);
        Story.of(sentence + ": both").does(room + "moveTo 0 2; type 0 x; split 0").says("covered 0 4", 4);
        Story.of(sentence + ": ahead alone").does(room + "moveTo 0 3; type 0 x").says("covered 0 4", 2);
        String all = "write 0 ab; extend 0 0; comment 0; ";
        Story.of(sentence + ": none ahead").does(all + "moveTo 0 0; type 0 x").says("covered 0 2", 2);
        Story.of(sentence + ": none behind").does(all + "moveTo 0 2; type 0 x").says("covered 0 2", 2);
        Story.of(sentence + ": two comments, each of one of these").does("write 0 ab; select 0 0 1; comment 0; select 0 1 2; comment 0; moveTo 0 1; type 0 x")
            .says("covered 0 2", 1).says("covered 0 3", 1);
        Story.of(sentence + ": two comments, both of both").does(all + "comment 0; moveTo 0 1; type 0 x").says("covered 0 2", 3).says("covered 0 3", 3);
        Story.of(sentence + ": behind a grave that it covers").does(room + "moveTo 0 2; erase 0; type 0 x").reads(0, "axcd").says("covered 0 4", 2);
        Story.of(sentence + ": one that is undone covers neither").does(room + "undo 0; moveTo 0 2; type 0 x").says("covered 0 4", 0).does("undo 0").refuses(Story.BOUNDS, "covered 0 8").says("covered 0 4", 0);
        Story.of(sentence + ": one that is not done yet does not").does("write 0 ab; pass 0 1; moveTo 1 1; type 1 x; type 1 y; extend 0 0; comment 0; pass 0 1; pass 1 0")
            .reads(1, "axyb").says("covered 1 4", 4);
    }

    private static void newBreaks() {
        String sentence = "a new break has the kind 0, and no block above it";
        Story.of(sentence).does("write 0 a/bc; setKind 0 1 3; nest 0 1 0; moveTo 0 3; split 0").says("kind 0 1", 3).says("depth 0 1", 1).says("kind 0 2", 0).says("depth 0 2", 0);
        Story.of(sentence + ": in the first block").does("write 0 a; setKind 0 0 2; split 0").says("kind 0 0", 2).says("kind 0 1", 0).says("depth 0 1", 0);
        Story.of("the first block has no kind but 0, and no block above it, at first").says("kind 0 0", 0).says("depth 0 0", 0);
    }

    // ---- all further acts

    private static void undoneDoNothing() {
        String sentence = "all further acts do nothing if they are undone: ";
        Story.of(sentence + "REMOVE").does("write 0 ab; erase 0; undo 0").reads(0, "ab").does("redo 0").reads(0, "a");
        Story.of(sentence + "REMOVE, as a proposal").does("write 0 ab; propose 0 on; erase 0; undo 0").reads(0, "ab").says("open 0", 0).does("redo 0").reads(0, "ab-");
        Story.of(sentence + "RESTORE").does("write 0 ab; name 0; erase 0; bringBack 0 0; undo 0").reads(0, "a").does("redo 0").reads(0, "ab");
        Story.of(sentence + "MARK on").does("write 0 ab; extend 0 0; mark 0 BOLD on; undo 0").marks(0, "BOLD", "..").does("redo 0").marks(0, "BOLD", "xx");
        Story.of(sentence + "MARK off").does("write 0 ab; extend 0 0; mark 0 LINK on; mark 0 LINK off; undo 0").marks(0, "LINK", "xx").does("redo 0").marks(0, "LINK", "..");
        Story.of(sentence + "KIND").does("setKind 0 0 1; setKind 0 0 2; undo 0").says("kind 0 0", 1).does("redo 0").says("kind 0 0", 2);
        Story.of(sentence + "NEST").does("write 0 /; nest 0 1 0; nest 0 1 NONE; undo 0").says("depth 0 1", 1).does("redo 0").says("depth 0 1", 0);
        Story.of(sentence + "COMMENT").does("write 0 ab; extend 0 0; comment 0; undo 0").says("covered 0 2", 0).does("redo 0").says("covered 0 2", 2);
    }

    private static void remove() {
        // The first block is that of the levels; x is PROPOSED by site 1, y by site 0; a is PLAIN.
        String room = "write 0 a; propose 0 on; type 0 y; pass 0 1; propose 1 on; moveTo 1 2; type 1 x; propose 1 off; pass 1 0; ";
        String read = room + "allow 0 1 READ; pass 0 1; select 1 0 3; ";
        Story.of("REMOVE: nothing with the level READ in its block").does(read).says("erase 1", 3).reads(1, "ay+x+").says("open 1", 2);
        Story.of("REMOVE: nothing with the level READ, also as a proposal").does(read + "propose 1 on").says("erase 1", 3).reads(1, "ay+x+").says("open 1", 2);
        Story.of("REMOVE: removed if the level is WRITE, and the act was not made as a proposal").does(room + "select 1 0 3; erase 1").reads(1, "").says("open 1", 0);
        Story.of("REMOVE: made as a proposal: removed if PROPOSED by the same writer, else a proposal").does(room + "propose 1 on; select 1 0 3; erase 1").reads(1, "a-y+-").says("open 1", 3);
        Story.of("REMOVE: with SUGGEST: removed if PROPOSED by the same writer, else a proposal").does(room + "allow 0 1 SUGGEST; pass 0 1; select 1 0 3; erase 1").reads(1, "a-y+-").says("open 1", 3);
        Story.of("REMOVE: PLAIN by the same writer is not PROPOSED").does(room + "decide 0 2 yes; allow 0 1 SUGGEST; pass 0 1; select 1 2 3; erase 1").reads(1, "ay+x-").says("open 1", 2);
        Story.of("REMOVE: the level in the block of a break that shows is that in its own").does("write 0 a/b; allow 1 1 READ; pass 0 1; moveTo 1 2; erase 1").reads(1, "a/b")
            .does("allow 1 1 WRITE; allow 0 1 READ; pass 0 1; erase 1").reads(1, "ab");
        // The break goes first, and then b is in the first block, where site 1 may not write.
        Story.of("REMOVE: with all as it is by then").does("write 0 a/b; allow 0 1 READ; pass 0 1; select 1 1 3; erase 1").reads(1, "ab").says("acts", 6);
        Story.of("REMOVE, twice, at two sites").does("write 0 ab; pass 0 1; erase 0; moveTo 1 2; erase 1; pass 0 1; pass 1 0").reads(0, "a").reads(1, "a").does("undo 0").reads(0, "a").does("pass 0 1; undo 1").reads(1, "ab");
    }

    private static void restore() {
        String room = "write 0 ab/c; name 0; select 0 0 4; erase 0; allow 0 1 LEVEL; pass 0 1; ";
        Story.of("RESTORE: with the level WRITE in its block").does(room.replace("LEVEL", "WRITE")).says("bringBack 1 0", 4).reads(1, "ab/c");
        Story.of("RESTORE: not with SUGGEST").does(room.replace("LEVEL", "SUGGEST")).says("bringBack 1 0", 4).reads(1, "").says("open 1", 0);
        Story.of("RESTORE: not with READ").does(room.replace("LEVEL", "READ")).says("bringBack 1 0", 4).reads(1, "");
        // The break is in the block ahead of it until it shows; then it is in its own, and so is c.
        Story.of("RESTORE: in its block, as it is by then").does("write 0 ab/c; allow 1 1 READ; name 0; select 0 0 4; erase 0; pass 0 1").says("bringBack 1 0", 4).reads(1, "ab/").says("graves 1", 1);
        Story.of("RESTORE: removed several times, it is not removed any more").does("write 0 ab; name 0; pass 0 1; erase 0; moveTo 1 2; erase 1; pass 1 0").says("bringBack 0 0", 1).reads(0, "ab");
        // PROPOSED and removed: the version had it as PLAIN.
        Story.of("RESTORE: of what is PROPOSED").does("type 1 a; name 1; allow 0 1 SUGGEST; pass 0 1; erase 1; pass 1 0").says("open 0", 0).says("length 0", 0)
            .does("bringBack 0 0").reads(0, "a+").says("open 0", 1);
    }

    private static void mark() {
        Story.of("MARK: if the first one is the second one").does("write 0 abc; select 0 1 2; mark 0 BOLD on").marks(0, "BOLD", ".x.").does("select 0 2 1; mark 0 BOLD off").marks(0, "BOLD", "...");
        Story.of("MARK: each element from the first to the second one").does("write 0 abcd; select 0 1 3; mark 0 LINK on").marks(0, "LINK", ".xx.").does("select 0 0 2; mark 0 LINK off").marks(0, "LINK", "..x.");
        Story.of("MARK: from the very first to the very last one").does("write 0 abc; select 0 3 0; mark 0 LINK on").marks(0, "LINK", "xxx");
        Story.of("MARK: also what is removed").does("write 0 abc; name 0; moveTo 0 2; erase 0; select 0 0 2; mark 0 BOLD on; bringBack 0 0").reads(0, "abc").marks(0, "BOLD", "xxx");
        Story.of("MARK: one mark does not touch the other one").does("write 0 ab; extend 0 0; mark 0 BOLD on; mark 0 LINK on; mark 0 BOLD off").marks(0, "BOLD", "..").marks(0, "LINK", "xx");
        String levels = "write 0 a/b/c; allow 1 1 SUGGEST; allow 2 2 READ; allow 0 2 SUGGEST; pass 0 1; pass 0 2; ";
        Story.of("MARK: if the level in its block is WRITE").does(levels + "select 1 0 5; mark 1 BOLD on; select 2 5 0; mark 2 BOLD on").marks(1, "BOLD", "x..xx").marks(2, "BOLD", ".xx..");
        Story.of("MARK: loses it if the level in its block is WRITE").does(levels + "select 0 0 5; mark 0 LINK on; pass 0 1; select 1 0 5; mark 1 LINK off").marks(1, "LINK", ".xx..");
        Story.of("MARK: what came between by then gets it, what comes later grows").does("write 0 ab; pass 0 1; setKind 0 0 1; extend 0 0; mark 0 LINK on; moveTo 1 1; write 1 xy; pass 0 1; pass 1 0")
            .reads(0, "axyb").marks(0, "LINK", "xxxx").marks(1, "LINK", "xxxx");
        Story.of("MARK: two at once: the last one in order holds").does("write 0 ab; pass 0 1; extend 0 0; extend 1 2; mark 1 BOLD off; mark 0 BOLD on; pass 0 1; pass 1 0").marks(0, "BOLD", "..").marks(1, "BOLD", "..");
    }

    private static void kind() {
        String sentence = "KIND: with the level WRITE in the block, when it is its turn";
        String room = "write 0 a/; pass 0 1; allow 1 1 LEVEL; setKind 1 1 3; setKind 1 0 2; ";
        for (String level : new String[] {"SUGGEST", "READ"}) {
            Story.of(sentence + ": " + level).does(room.replace("LEVEL", level)).says("kind 1 1", 3).does("pass 0 1").says("kind 1 1", 0).says("kind 1 0", 2);
        }
        Story.of(sentence + ": WRITE").does(room.replace("LEVEL", "WRITE") + "pass 0 1").says("kind 1 1", 3).says("kind 1 0", 2);
        // The break is gone by then, but its block is told by its number, and so is the level in it.
        Story.of("KIND: of a block that does not show by then").does("write 0 a/; pass 0 1; erase 0; setKind 0 0 1; setKind 1 1 3; pass 1 0").says("blocks 0", 1).says("kind 0 0", 1)
            .does("undo 0; undo 0").says("blocks 0", 2).says("kind 0 1", 3).says("kind 0 0", 0);
    }

    private static void nest() {
        String sentence = "NEST: with the level WRITE in the block, when it is its turn";
        String room = "write 0 a/b/; pass 0 1; allow 1 1 LEVEL; nest 1 1 0; nest 1 2 1; ";
        for (String level : new String[] {"SUGGEST", "READ"}) {
            Story.of(sentence + ": " + level).does(room.replace("LEVEL", level)).says("depth 1 2", 2).does("pass 0 1").says("depth 1 1", 0).says("depth 1 2", 1);
        }
        Story.of(sentence + ": WRITE").does(room.replace("LEVEL", "WRITE") + "pass 0 1").says("depth 1 1", 1).says("depth 1 2", 2);
        Story.of("NEST: under none").does("write 0 /; nest 0 1 0").says("depth 0 1", 1).does("nest 0 1 NONE").says("depth 0 1", 0).does("nest 0 1 NONE").says("depth 0 1", 0);
        Story.of("NEST: under the first block, which is not none").does("write 0 /; nest 0 1 0").says("depth 0 1", 1).says("depth 0 0", 0);
        Story.of("NEST: nothing if the other one is the block itself").does("write 0 //; nest 0 1 0; nest 0 1 1; nest 0 0 0").says("depth 0 1", 1).says("depth 0 0", 0).says("acts", 5);
        Story.of("NEST: nothing if the other one comes to it by going up").does("write 0 //; nest 0 1 0; nest 0 0 1").says("depth 0 0", 0).says("depth 0 1", 1)
            .does("nest 0 2 1; nest 0 0 2").says("depth 0 0", 0).says("depth 0 2", 2);
        Story.of("NEST: by going up through blocks that do not show").does("write 0 //; nest 0 2 1; nest 0 1 0; moveTo 0 1; erase 0; nest 0 0 1").says("depth 0 0", 0).says("depth 0 1", 1);
        Story.of("NEST: under another one instead").does("write 0 ///; nest 0 1 0; nest 0 2 1; nest 0 3 2; nest 0 2 0").says("depth 0 2", 1).says("depth 0 3", 2);
        Story.of("NEST: two at once that would make a ring: the later one in order does nothing").does("write 0 //; pass 0 1; nest 1 1 2; nest 0 2 1; pass 0 1; pass 1 0")
            .says("depth 0 1", 0).says("depth 0 2", 1).says("depth 1 1", 0).says("depth 1 2", 1).does("undo 0").says("depth 0 1", 1).says("depth 0 2", 0);
    }

    private static void comment() {
        Story.of("COMMENT: if the first one is the second one").does("write 0 abc; select 0 1 2").says("comment 0", 3).says("covered 0 3", 1);
        Story.of("COMMENT: from the first to the second one").does("write 0 abcd; select 0 3 1").says("comment 0", 4).says("covered 0 4", 2).does("moveTo 0 4; erase 0; moveTo 0 1; erase 0").says("covered 0 4", 2);
        Story.of("COMMENT: whatever the level").does("write 0 a/b; allow 0 1 READ; allow 1 1 SUGGEST; pass 0 1; select 1 0 3; comment 1").says("covered 1 5", 3);
        Story.of("COMMENT: also what is removed").does("write 0 abc; name 0; moveTo 0 2; erase 0; select 0 0 2; comment 0").says("covered 0 4", 2).does("bringBack 0 0").says("covered 0 4", 3);
    }

    private static void acceptAndRefuse() {
        String room = "propose 0 on; write 0 ab/; pass 0 1; ";
        Story.of("ACCEPT: TYPE and SPLIT are PLAIN").does(room + "decide 0 0 yes; decide 0 2 yes").reads(0, "ab+/").says("blocks 0", 2).says("shown 0", 2).says("open 0", 1);
        Story.of("REFUSE: TYPE and SPLIT are VOID").does(room + "decide 0 0 no; decide 0 2 no").reads(0, "b+").says("blocks 0", 1).says("graves 0", 2).says("open 0", 1);
        String level = "ACCEPT, REFUSE: nothing, unless the level in the block of its element is WRITE, when it is its turn";
        for (String less : new String[] {"SUGGEST", "READ"}) {
            Story.of(level + ": " + less).does(room + "allow 0 1 " + less + "; decide 1 0 yes; decide 1 1 no").reads(1, "a/+").does("pass 0 1").reads(1, "a+b+/+").says("open 1", 3);
        }
        Story.of(level + ": WRITE").does(room + "allow 0 1 WRITE; decide 1 0 yes; decide 1 1 no; pass 0 1").reads(1, "a/+");
        Story.of("ACCEPT: nothing, unless it is open: removed by then").does(room + "propose 0 off; moveTo 0 1; erase 0; decide 1 0 yes; pass 0 1; pass 1 0").reads(1, "b+/+").says("shown 1", 0)
            .does("undo 0; pass 0 1").reads(1, "ab+/+");
        Story.of("ACCEPT: nothing, if the act is undone").does(room + "undo 0; decide 1 2 yes; pass 0 1").reads(1, "a+b+").says("blocks 1", 1).does("redo 0; pass 0 1").reads(1, "a+b+/").says("blocks 1", 2);
        Story.of("ACCEPT: a proposal to remove: the element is removed").does("write 0 ab; propose 0 on; erase 0; decide 0 2 yes").reads(0, "a").says("graves 0", 1).says("open 0", 0);
        Story.of("REFUSE closes a proposal to remove").does("write 0 ab; propose 0 on; erase 0; decide 0 2 no").reads(0, "ab").says("graves 0", 0).says("open 0", 0);
        Story.of("ACCEPT, REFUSE: two at once: the first one in order counts").does("write 0 ab; propose 0 on; erase 0; pass 0 1; decide 1 2 yes; decide 0 2 no; pass 0 1; pass 1 0").reads(0, "ab").reads(1, "ab").says("open 1", 0);
    }

    private static void openProposals() {
        Story.of("TYPE and SPLIT are open as long as their element is PROPOSED and not removed").does("propose 0 on; write 0 a/").says("open 0", 2).does("erase 0").says("open 0", 1)
            .does("undo 0").says("open 0", 2).does("decide 0 1 yes").says("open 0", 1).does("decide 0 0 no").says("open 0", 0);
        String removal = "a proposal to remove an element is open until it is accepted or refused, as long as the element is seen";
        String room = "write 0 ab; name 0; propose 0 on; erase 0; erase 0; propose 0 off; ";
        Story.of(removal).does(room).reads(0, "ab-").says("open 0", 2).says("proposed 0 1", 2);
        Story.of(removal + " (it is open again, if that is seen again)").does(room + "erase 0").reads(0, "a").says("open 0", 0).does("bringBack 0 0").reads(0, "ab-").says("open 0", 2);
        Story.of(removal + ": refused it is not open again").does(room + "decide 0 2 no; erase 0; bringBack 0 0").reads(0, "ab-").says("open 0", 1).does("decide 0 3 no; erase 0; bringBack 0 0").reads(0, "ab").says("open 0", 0);
        Story.of(removal + ": accepted it is not open again").does(room + "decide 0 2 yes").says("open 0", 0).does("bringBack 0 0").reads(0, "ab-").says("open 0", 1).refuses(Story.STATE, "decide 0 2 no").says("decide 0 3 yes", 6);
        // b is VOID for good, so nobody can decide on it any more.
        Story.of(removal + ": what is VOID is not seen").does("propose 0 on; write 0 b; pass 0 1; propose 1 on; moveTo 1 1; erase 1").says("open 1", 2).does("decide 1 0 no").says("open 1", 0).refuses(Story.STATE, "decide 1 1 yes");
        Story.of(removal + ": what is removed already").does("write 0 ab; pass 0 1; propose 1 on; moveTo 1 2; erase 1; erase 0; pass 0 1").reads(1, "a").says("open 1", 0).does("undo 0; pass 0 1").reads(1, "ab-").says("open 1", 1);
    }

    private static void allow() {
        Story.of("ALLOW: the site has the level in the block, though that does not show").does("write 0 a/b; pass 0 1; allow 1 1 READ; moveTo 0 2; erase 0; pass 0 1").says("blocks 1", 1).says("level 1 0", 0)
            .does("undo 0; pass 0 1").says("level 1 1", 2);
        Story.of("ALLOW of the first block is not that of the others").does("write 0 a/b; allow 0 1 READ; pass 0 1").says("level 1 0", 2).says("level 1 1", 0);
        Story.of("ALLOW is not undone by undo").does("allow 0 1 READ").refuses(Story.STATE, "undo 0").does("pass 0 1").says("level 1 0", 2).says("isUndone 0 0", false);
    }
}
