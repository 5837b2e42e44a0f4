/**
 * "Each of these holds when it is its turn in the order, with all as it is by then": acts of sites
 * that wrote apart, so that what an act is for does not show, is removed, VOID or PROPOSED by then.
 * What nothing tells of right away is told by a version that is brought back, which is a RESTORE.
 */
public final class ApartTest {
    public static void main(String[] args) {
        boldBehindWhatDoesNotShow();
        linksBesideWhatDoesNotShow();
        commentsOverWhatIsVoid();
        proposedWithLess();
        removedAlready();
        decidedWhileRemoved();
        decidedInOtherBlocks();
        kindsOfHiddenBlocks();
        nestsOfHiddenBlocks();
        levelsOfHiddenBlocks();
        noActDoesMore();
        Story.end();
    }

    // ---- neighbours in the row

    private static void boldBehindWhatDoesNotShow() {
        String sentence = "a new element has BOLD if the element right ahead of it in the row has it: ";
        // The one right ahead has lost it, though the one ahead of that has it.
        Story.of(sentence + "that is PROPOSED").does("write 0 a; extend 0 0; mark 0 BOLD on; moveTo 0 1; propose 0 on; type 0 p; propose 0 off; select 0 1 2; mark 0 BOLD off; moveTo 0 2; type 0 x")
            .reads(0, "ap+x").marks(0, "BOLD", "x..");
        Story.of(sentence + "that is VOID").does("write 0 av; undo 0; pass 0 1; select 1 0 1; mark 1 BOLD on; pass 1 0; type 0 x").reads(0, "ax").marks(0, "BOLD", "x.");
        Story.of(sentence + "that is a break").does("write 0 a/b; extend 0 0; mark 0 BOLD on; moveTo 0 2; type 0 x").reads(0, "a/xb").marks(0, "BOLD", "xxxx");
    }

    private static void linksBesideWhatDoesNotShow() {
        String sentence = "a new element has LINK if the elements right ahead of it and right behind it in the row both have it: ";
        Story.of(sentence + "the one behind is PROPOSED").does("write 0 ab; moveTo 0 1; propose 0 on; type 0 p; propose 0 off; select 0 0 1; mark 0 LINK on; select 0 2 3; mark 0 LINK on; moveTo 0 1; type 0 x")
            .reads(0, "axp+b").marks(0, "LINK", "x..x");
        String room = "write 0 ab; moveTo 0 1; type 0 v; undo 0; ";
        Story.of(sentence + "the one behind is VOID, without it").does(room + "select 0 0 1; mark 0 LINK on; select 0 1 2; mark 0 LINK on; moveTo 0 1; type 0 x").reads(0, "axb").marks(0, "LINK", "x.x");
        Story.of(sentence + "the one behind is VOID, with it").does(room + "select 0 0 2; mark 0 LINK on; moveTo 0 1; type 0 x").reads(0, "axb").marks(0, "LINK", "xxx");
    }

    private static void commentsOverWhatIsVoid() {
        String room = "write 0 ab; moveTo 0 1; type 0 v; undo 0; ";
        Story.of("COMMENT: the comment covers all elements from the first to the second one, also what is VOID").does(room + "select 0 0 2; comment 0; moveTo 0 1; type 0 x").reads(0, "axb").says("covered 0 4", 3);
        Story.of("a comment covers a new element if it covers both of these: not the VOID one behind").does(room + "select 0 0 1; comment 0; moveTo 0 1; type 0 x").reads(0, "axb").says("covered 0 4", 1);
    }

    // ---- TYPE, SPLIT, REMOVE, ACCEPT, REFUSE

    private static void proposedWithLess() {
        // The ALLOW of site 0 is ahead of what site 1 writes.
        String room = "write 0 a; pass 0 1; propose 1 on; allow 0 1 LEVEL; moveTo 1 1; write 1 x/; pass 0 1";
        Story.of("TYPE, SPLIT: VOID if the level is READ, also if the act was made as a proposal").does(room.replace("LEVEL", "READ")).reads(1, "a").says("graves 1", 2).says("open 1", 0);
        Story.of("TYPE, SPLIT: PROPOSED if the level is SUGGEST, also if the act was made as a proposal").does(room.replace("LEVEL", "SUGGEST")).reads(1, "ax+/+").says("graves 1", 0).says("open 1", 2);
        Story.of("REFUSE closes the proposal to remove an element, which is PROPOSED as before").does("propose 0 on; type 0 a; pass 0 1; propose 1 on; moveTo 1 1; erase 1").reads(1, "a+-").says("open 1", 2)
            .does("decide 1 1 no").reads(1, "a+").says("open 1", 1).does("decide 1 0 yes").reads(1, "a");
        Story.of("ACCEPT of what is PROPOSED leaves the proposal to remove it open").does("propose 0 on; type 0 a; pass 0 1; propose 1 on; moveTo 1 1; erase 1; decide 1 0 yes").reads(1, "a-").says("open 1", 1)
            .does("decide 1 1 yes").reads(1, "").says("graves 1", 1);
    }

    private static void removedAlready() {
        // Both sites erase b; site 0 is first in order.
        Story.of("REMOVE: the act is a proposal, which is open if the element is seen again: removed by then").does("write 0 ab; name 0; pass 0 1; propose 1 on; moveTo 1 2; erase 1; erase 0; pass 1 0")
            .reads(0, "a").says("open 0", 0).says("bringBack 0 0", 1).reads(0, "ab-").says("open 0", 1).says("decide 0 2 yes", 5).reads(0, "a");
        // The version has a as PLAIN; by the ALLOW of site 0, which is first in order, a is PROPOSED.
        Story.of("REMOVE: the element is PROPOSED by the same writer, so it is no proposal: removed by then").does("type 1 a; name 1; allow 0 1 SUGGEST; pass 0 1; pass 1 0; moveTo 0 1; erase 0; erase 1; pass 1 0")
            .reads(0, "").says("bringBack 0 0", 1).reads(0, "a+").says("open 0", 1);
    }

    private static void decidedWhileRemoved() {
        for (String answer : new String[] {"yes", "no"}) {
            // The version of site 2, where a is PLAIN; at site 0 it was removed ahead of all decisions.
            Story.of("ACCEPT, REFUSE: nothing, unless TYPE is an open proposal, its element not removed: " + answer)
                .does("propose 0 on; type 0 a; pass 0 1; pass 0 2; propose 0 off; erase 0; decide 1 0 " + answer + "; decide 2 0 yes; name 2; pass 1 0; pass 2 0")
                .reads(0, "").says("open 0", 0).says("bringBack 0 0", 1).reads(0, "a+").says("open 0", 1);
            Story.of("ACCEPT, REFUSE: nothing, unless the element of the proposal to remove it is seen: " + answer)
                .does("write 0 ab; name 0; propose 0 on; erase 0; propose 0 off; pass 0 1; erase 0; decide 1 2 " + answer + "; pass 1 0")
                .reads(0, "a").says("bringBack 0 0", 1).reads(0, "ab-").says("open 0", 1);
        }
    }

    private static void decidedInOtherBlocks() {
        String sentence = "ACCEPT, REFUSE: nothing, unless the level in the block of its element is WRITE: ";
        // b is proposed to be removed, c is PROPOSED, both in the second block.
        String room = "write 0 a/b; propose 0 on; type 0 c; moveTo 0 3; erase 0; pass 0 1; allow BLOCK 1 LEVEL; decide 1 3 yes; decide 1 4 ANSWER; pass 1 0";
        for (String level : new String[] {"SUGGEST", "READ"}) {
            String less = room.replace("LEVEL", level);
            Story.of(sentence + level + " there").does(less.replace("BLOCK", "1").replace("ANSWER", "yes")).reads(0, "a/b-c+").says("open 0", 2);
            Story.of(sentence + level + " there").does(less.replace("BLOCK", "1").replace("ANSWER", "no")).reads(0, "a/b-c+").says("open 0", 2);
            Story.of(sentence + level + " in another one").does(less.replace("BLOCK", "0").replace("ANSWER", "yes")).reads(0, "a/c").says("open 0", 0);
            Story.of(sentence + level + " in another one").does(less.replace("BLOCK", "0").replace("ANSWER", "no")).reads(0, "a/bc").says("open 0", 0);
        }
    }

    // ---- blocks whose break is removed by then

    private static void kindsOfHiddenBlocks() {
        String sentence = "KIND, of a block: it gets the kind, with the level WRITE in it: ";
        Story.of(sentence + "its break is removed by then").does("write 0 a/; name 0; pass 0 1; erase 0; setKind 1 1 3; pass 1 0").says("blocks 0", 1).does("bringBack 0 0").says("kind 0 1", 3).says("kind 0 0", 0);
        Story.of(sentence + "not with that in the block where its break was").does("write 0 a/; name 0; allow 0 1 READ; pass 0 1; erase 0; setKind 1 1 3; pass 1 0; bringBack 0 0").says("kind 0 1", 3);
        // The second KIND of site 1 comes behind the REMOVE.
        Story.of(sentence + "READ in it, its break is removed by then").does("write 0 a/; name 0; pass 0 1; allow 1 1 READ; erase 0; setKind 1 0 1; setKind 1 1 3; pass 1 0; bringBack 0 0").says("kind 0 1", 0).says("kind 0 0", 1);
    }

    private static void nestsOfHiddenBlocks() {
        String sentence = "NEST, of a block under another one, with the level WRITE in it: ";
        Story.of(sentence + "its break is removed by then").does("write 0 a/; name 0; pass 0 1; erase 0; nest 1 1 0; pass 1 0; bringBack 0 0").says("depth 0 1", 1);
        Story.of(sentence + "the other one's break is removed by then").does("write 0 a/; name 0; pass 0 1; erase 0; nest 1 0 1; pass 1 0").says("depth 0 0", 0).does("bringBack 0 0").says("depth 0 0", 1);
        Story.of(sentence + "not with that in the block where its break was").does("write 0 a/; name 0; allow 0 1 READ; pass 0 1; erase 0; nest 1 1 0; pass 1 0; bringBack 0 0").says("depth 0 1", 1);
        Story.of(sentence + "READ in it, its break is removed by then").does("write 0 a/; name 0; pass 0 1; allow 1 1 READ; erase 0; setKind 1 0 1; nest 1 1 0; pass 1 0; bringBack 0 0").says("depth 0 1", 0);
        Story.of("NEST: nothing if the other one comes to the block by going up, though its break is removed by then").does("write 0 //; name 0; nest 0 2 1; pass 0 1; moveTo 0 1; erase 0; nest 1 1 2; pass 1 0")
            .says("blocks 0", 2).says("depth 0 1", 0).does("bringBack 0 0").says("depth 0 1", 0).says("depth 0 2", 1);
    }

    private static void levelsOfHiddenBlocks() {
        // The REMOVE of site 1 comes between the acts of site 0.
        Story.of("ALLOW, of a site and a block: its break is removed by then").does("write 0 a/; name 0; pass 0 1; moveTo 1 2; erase 1; setKind 0 0 1; allow 1 2 READ; pass 1 0; bringBack 0 0; pass 0 2")
            .says("blocks 2", 2).says("level 2 1", 2).says("level 2 0", 0);
    }

    // ---- each kind of act for itself

    private static void noActDoesMore() {
        Story.of("MARK gives no kind, and nests nothing").does("write 0 a/b; select 0 1 2; mark 0 LINK on").marks(0, "LINK", ".x.").says("kind 0 1", 0).says("depth 0 1", 0);
        Story.of("KIND nests nothing").does("write 0 a/b; setKind 0 1 2").says("kind 0 1", 2).says("depth 0 1", 0);
        Story.of("NEST gives no kind, and covers nothing").does("write 0 a/b; select 0 0 1; comment 0; nest 0 1 0").says("depth 0 1", 1).says("covered 0 3", 1).says("kind 0 1", 0);
        Story.of("COMMENT decides nothing, and marks nothing").does("propose 0 on; write 0 ab; extend 0 0; comment 0").reads(0, "a+b+").says("open 0", 2).marks(0, "BOLD", "..").marks(0, "LINK", "..");
        Story.of("REMOVE, RESTORE: marks stay").does("write 0 ab; extend 0 0; mark 0 BOLD on; name 0; select 0 0 2; erase 0; bringBack 0 0").reads(0, "ab").marks(0, "BOLD", "xx").marks(0, "LINK", "..");
        Story.of("ALLOW gives no kind, and removes nothing").does("write 0 a/b; setKind 0 1 1; allow 1 1 READ").reads(0, "a/b").says("kind 0 1", 1).says("depth 0 1", 0).says("open 0", 0);
    }
}
