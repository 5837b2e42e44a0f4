/** What there is at most: acts, messages, comments, versions, blocks and calls. One less, all, and one more. */
public final class LimitsTest {
    // 140 acts: 20 elements (place 9 is a break), and 120 proposals to remove them.
    private static final String TEXT = "abcdefghi/klmnopqrst";
    private static final String MANY = "write 0 " + TEXT + "; propose 0 on; "
        + "select 0 0 20; erase 0; select 0 0 20; erase 0; select 0 0 20; erase 0; "
        + "select 0 0 20; erase 0; select 0 0 20; erase 0; select 0 0 20; erase 0; propose 0 off; ";
    private static final String MOST = "there are at most 160 acts; IllegalStateException if there would be more: ";

    public static void main(String[] args) {
        oneActMore();
        oneRedoMore();
        severalActsMore();
        bringBackAtTheEnd();
        actsOfAllSites();
        lostActsCount();
        firstLineAtTheEnd();
        whatMakesNoActs();
        messages();
        comments();
        commentsThatCount();
        versions();
        blocks();
        nestedBlocks();
        calls();
        Story.end();
    }

    private static String filled(int acts) {
        return MANY + "times " + (acts - 140) + " setKind 0 1 1; select 0 3 5; ";
    }

    private static void oneActMore() {
        String[][] calls = {{"type 0 x", "type 0 y", "type 0 z"}, {"split 0", "split 0", "split 0"},
            {"mark 0 BOLD on", "mark 0 LINK on", "mark 0 BOLD off"}, {"comment 0", "comment 0", "comment 0"},
            {"setKind 0 1 2", "setKind 0 0 3", "setKind 0 1 0"}, {"nest 0 1 0", "nest 0 1 NONE", "nest 0 0 1"},
            {"decide 0 20 yes", "decide 0 21 no", "decide 0 22 yes"}, {"allow 1 1 READ", "allow 0 3 SUGGEST", "allow 1 1 WRITE"}};
        for (String[] call : calls) {
            String name = call[0].substring(0, call[0].indexOf(' '));
            Story.of(MOST + name).does(filled(158)).says("acts", 158).says(call[0], 158).says(call[1], 159).says("acts", 160)
                .refuses(Story.STATE, call[2]).says("acts", 160);
        }
        Story.of(MOST + "undo").does(filled(158)).says("undo 0", 157).says("undo 0", 156).says("acts", 160).refuses(Story.STATE, "undo 0");
        Story.of(MOST + "erase, of one").does(filled(158)).does("moveTo 0 20").says("erase 0", 1).says("erase 0", 1).says("acts", 160)
            .refuses(Story.STATE, "erase 0").says("length 0", 18);
    }

    private static void oneRedoMore() {
        Story.of(MOST + "redo").does(filled(155)).does("times 3 undo 0").says("acts", 158)
            .says("redo 0", 152).says("redo 0", 153).says("acts", 160).refuses(Story.STATE, "redo 0").says("isUndone 0 154", true);
    }

    private static void severalActsMore() {
        String sentence = MOST + "erase, of several";
        Story.of(sentence).does(filled(157)).does("select 0 0 3").says("erase 0", 3).says("acts", 160).says("length 0", 17);
        Story.of(sentence).does(filled(158)).does("select 0 0 3").refuses(Story.STATE, "erase 0").says("length 0", 20).says("cursor 0", 3).says("tail 0", 0)
            .does("select 0 2 0").says("erase 0", 2).says("acts", 160).says("length 0", 18);
        Story.of(sentence).does(filled(159)).does("select 0 2 0").refuses(Story.STATE, "erase 0").says("length 0", 20).says("cursor 0", 0).says("tail 0", 2)
            .does("extend 0 1").says("erase 0", 1).says("acts", 160);
        Story.of(sentence).does(filled(160)).refuses(Story.STATE, "erase 0").says("cursor 0", 5).says("tail 0", 3);
    }

    /** The version has three elements that were erased, so it is brought back by three acts. */
    private static void bringBackAtTheEnd() {
        String sentence = MOST + "bringBack";
        String room = "write 0 abc; name 0; moveTo 0 0; name 1; select 0 0 3; erase 0; ";
        Story.of(sentence).does(room + "times 151 setKind 0 0 1").says("acts", 157).says("bringBack 0 0", 3).says("acts", 160).reads(0, "abc");
        Story.of(sentence).does(room + "times 152 setKind 0 0 1").says("acts", 158).refuses(Story.STATE, "bringBack 0 0").says("acts", 158).reads(0, "");
        Story.of(sentence).does(room + "times 154 setKind 0 0 1").says("acts", 160).refuses(Story.STATE, "bringBack 0 0").reads(0, "");
        Story.of(sentence + ", which makes none").does(room + "times 154 setKind 0 0 1").says("bringBack 0 1", 0).says("acts", 160);
    }

    private static void actsOfAllSites() {
        Story story = Story.of(MOST + "those of all sites together").does("times 40 type 0 a; times 40 type 1 b; times 40 type 2 c; times 39 type 3 d");
        story.says("type 3 d", 159).says("acts", 160);
        story.refuses(Story.STATE, "type 0 a", "split 1", "type 3 d").says("act 159", 40300).says("actAt 3 39", 159);
    }

    private static void lostActsCount() {
        Story.of(MOST + "also those that are lost").does("write 1 abc; crash 1 3; times 156 setKind 0 0 1").says("has 1", 0)
            .says("type 1 x", 159).says("act 159", 4100).refuses(Story.STATE, "type 1 y").does("crash 1 1; crash 0 100").refuses(Story.STATE, "type 1 y", "split 0").says("acts", 160);
    }

    private static void firstLineAtTheEnd() {
        Story.of("at 160 acts, too, the first line that applies decides").does(filled(160))
            .refuses(Story.BOUNDS, "type 4 x", "split 4", "erase 4", "mark 4 2 on", "comment 4", "setKind 0 2 1", "nest 0 0 2", "decide 0 160 yes", "allow 0 0 1", "undo 4", "redo 4")
            .refuses(Story.ARGUMENT, "type 0 X", "mark 0 2 on", "setKind 0 0 4", "allow 0 1 3")
            .refuses(Story.STATE, "decide 0 0 yes", "redo 0");
    }

    private static void whatMakesNoActs() {
        Story.of("what makes no acts goes on at 160 acts").does(filled(160)).says("moveTo 0 1", 5).says("extend 0 4", 3)
            .says("propose 0 on", false).says("save 0", 160).says("crash 0 0", 160).says("name 0", 0).says("bringBack 0 0", 0)
            .says("send 0 1", 0).says("deliver 0", 160).says("length 1", 20).says("elementAnew 1 19", 19).says("open 1", 120).says("crash 1 160", 0);
    }

    private static void messages() {
        String sentence = "messages are numbered from 0, at most 80; send: IllegalStateException if there were 80";
        Story story = Story.of(sentence).does("write 0 a");
        for (int message = 0; message < 80; message++) {
            story.says("send " + message % 4 + " " + (message + 1 + message / 40) % 4, message);
        }
        story.refuses(Story.STATE, "send 0 1", "send 3 2").refuses(Story.ARGUMENT, "send 1 1").refuses(Story.BOUNDS, "send 0 4", "deliver 80", "deliver -1");
        story.says("deliver 79", 0).says("deliver 76", 1).says("deliver 0", 1).says("deliver 0", 0).refuses(Story.STATE, "send 0 1");
    }

    private static void comments() {
        Story story = Story.of("comment: IllegalStateException if 20 COMMENT acts were made already").does("write 0 abc; extend 0 1");
        for (int number = 0; number < 20; number++) {
            story.says("comment 0", 3 + number);
        }
        story.refuses(Story.STATE, "comment 0").says("acts", 23);
        // Each of them is one of its own: they are undone one by one.
        for (int number = 19; number >= 0; number--) {
            int act = 3 + number;
            story.says("covered 0 " + act, 2).says("undo 0", act).says("covered 0 " + act, 0);
        }
        story.refuses(Story.STATE, "comment 0");
    }

    private static void commentsThatCount() {
        String sentence = "comment: 20 by any sites: ";
        String room = "write 0 ab; pass 0 1; pass 0 2; pass 0 3; extend 0 0; extend 1 2; extend 2 1; select 3 1 2; times 5 comment 0; times 5 comment 1; times 5 comment 2; ";
        Story.of(sentence + "each five").does(room + "times 4 comment 3").says("comment 3", 21).refuses(Story.STATE, "comment 0", "comment 1", "comment 2", "comment 3");
        Story.of(sentence + "also what is undone, or lost").does(room + "undo 0; crash 1 5; crash 2 1; times 4 comment 1").says("comment 1", 22)
            .refuses(Story.STATE, "comment 0", "comment 2").says("covered 1 22", 2).says("covered 0 6", 0).says("covered 0 5", 2);
        // The last one is not mixed up with marks, nor with the first one.
        Story.of(sentence + "the last one covers what it covers").does(room + "times 4 comment 0; select 0 1 2").says("comment 0", 21)
            .says("covered 0 21", 1).says("covered 0 20", 2).says("covered 0 2", 2).marks(0, "BOLD", "..").marks(0, "LINK", "..");
        Story.of(sentence + "the last one covers a new element, too").does(room + "times 4 comment 0; comment 0; moveTo 0 1; type 0 x").reads(0, "axb").says("covered 0 21", 3).says("covered 0 2", 3);
        Story.of(sentence + "whatever the numbers of their acts").does("write 0 ab; select 0 0 1; comment 0; times 31 setKind 0 0 1; select 0 1 2").says("comment 0", 34).says("covered 0 2", 1).says("covered 0 34", 1);
        Story.of(sentence + "whatever the numbers of their acts, they are no marks").does("write 0 ab; extend 0 0; times 27 setKind 0 0 1; times 4 comment 0; times 28 setKind 0 0 1; times 4 comment 0")
            .says("act 61", 62007).marks(0, "BOLD", "..").marks(0, "LINK", "..");
    }

    private static void versions() {
        Story story = Story.of("name: its number, from 0 on; IllegalStateException if there are 10");
        for (int version = 0; version < 10; version++) {
            story.does("type 0 a").says("name 0", version);
        }
        story.refuses(Story.STATE, "name 0").refuses(Story.BOUNDS, "differ 10 0", "bringBack 0 10").says("differ 0 9", 9).says("bringBack 0 9", 0)
            .says("bringBack 0 0", 9).reads(0, "a");
    }

    private static void blocks() {
        String sentence = "the blocks are the first one, and those of breaks that show: as many as there are acts, and 1";
        Story.of(sentence).does("times 160 split 2").says("blocks 2", 161).says("kind 2 160", 0).says("depth 2 160", 0).says("level 2 160", 0)
            .refuses(Story.BOUNDS, "kind 2 161", "depth 2 161", "level 2 161", "setKind 2 161 0").refuses(Story.STATE, "setKind 2 160 0");
        Story.of(sentence).does("times 158 split 0").says("setKind 0 158 3", 158).says("nest 0 158 157", 159).says("kind 0 158", 3).says("kind 0 157", 0)
            .says("depth 0 158", 1).refuses(Story.STATE, "nest 0 157 158", "allow 158 1 1");
        Story.of(sentence).does("times 159 split 0").says("allow 159 3 READ", 159).says("send 0 3", 0).says("deliver 0", 160).says("level 3 159", 2).says("level 3 158", 0);
    }

    private static void nestedBlocks() {
        // 80 breaks, each nested under the one ahead of it, the last one first.
        Story deep = Story.of("depth: as deep as there are acts for").does("times 80 split 0");
        for (int block = 80; block > 0; block--) {
            deep.does("nest 0 " + block + " " + (block - 1));
        }
        deep.says("acts", 160).says("depth 0 80", 80).says("depth 0 79", 79).says("depth 0 1", 1).says("depth 0 0", 0);
        Story ring = Story.of("NEST: nothing if the other one comes to the block by going up, however far").does("times 79 split 0");
        for (int block = 79; block > 0; block--) {
            ring.does("nest 0 " + block + " " + (block - 1));
        }
        ring.says("nest 0 0 79", 158).says("depth 0 0", 0).says("depth 0 79", 79).says("nest 0 0 NONE", 159).says("depth 0 79", 79);
    }

    private static void calls() {
        Story story = Story.of("an object is used for at most 512 calls: all of them answer").does("times 160 type 0 a; times 80 send 0 1");
        for (int message = 0; message < 80; message++) {
            story.says("deliver " + message, message == 0 ? 160 : 0);
        }
        for (int place = 0; place < 95; place++) {
            story.says("elementAnew 1 " + place, place).says("letter 0 " + (159 - place), 'a');
        }
        story.says("element 1 159", 159).says("has 1", 160);
    }
}
