/**
 * A room for rich text in which four sites write at once and apart. What each method promises
 * stands in the project's document; the numbers of acts are those of the elements that they make.
 */
public final class Marginnote {
    public static final int NONE = -1;
    public static final int TYPE = 0, SPLIT = 1, REMOVE = 2, RESTORE = 3, MARK = 4, KIND = 5, NEST = 6, COMMENT = 7, ACCEPT = 8, REFUSE = 9, ALLOW = 10, UNDO = 11, REDO = 12;
    public static final int BOLD = 0, LINK = 1;
    public static final int WRITE = 0, SUGGEST = 1, READ = 2;

    private static final int SITES = 4;
    private static final int BLOCK_KINDS = 4;
    private static final int MOST_ACTS = 160;
    private static final int MOST_BLOCKS = MOST_ACTS + 1;
    private static final int MOST_MESSAGES = 80;
    private static final int MOST_VERSIONS = 10;
    private static final int MOST_COMMENTS = 20;

    // NONE is the number of the first block, so being under no block needs another number.
    private static final int NO_BLOCK = -2;

    // What an element is; it is ABSENT as long as its act has not been done.
    private static final int ABSENT = 0, PLAIN = 1, PROPOSED = 2, VOID = 3;

    // Marks and comments share the bits of one number: the marks come first, then the comments.
    private static final int BOLD_BIT = 1 << BOLD;
    private static final int FIRST_COMMENT_BIT = 2;

    private final Book book;
    private final Site[] sites;
    private final Message[] messages;
    private final ActSet[] versions;
    private final Paper scratch;
    private final Paper otherScratch;
    private final ActSet scratchSet;
    private final int[] picked;
    private final int[] owners;
    private int messageCount;
    private int versionCount;

    public Marginnote() {
        book = new Book();
        sites = new Site[SITES];
        for (int number = 0; number < SITES; number++) {
            sites[number] = new Site(number, book);
        }
        messages = new Message[MOST_MESSAGES];
        versions = new ActSet[MOST_VERSIONS];
        scratch = new Paper(book);
        otherScratch = new Paper(book);
        scratchSet = new ActSet();
        picked = new int[MOST_ACTS];
        owners = new int[MOST_ACTS];
    }

    // ---- writing

    public int type(int site, char letter) throws IndexOutOfBoundsException, IllegalArgumentException, IllegalStateException {
        Site writer = siteAt(site);
        if (letter != ' ' && (letter < 'a' || letter > 'z')) {
            throw new IllegalArgumentException("no such letter");
        }
        return writeBehindCursor(writer, paperOf(writer), TYPE, letter);
    }

    public int split(int site) throws IndexOutOfBoundsException, IllegalStateException {
        Site writer = siteAt(site);
        return writeBehindCursor(writer, paperOf(writer), SPLIT, '/');
    }

    public int erase(int site) throws IndexOutOfBoundsException, IllegalStateException {
        Site writer = siteAt(site);
        Paper paper = paperOf(writer);
        int cursorPlace = paper.seenThrough(writer.cursor);
        int tailPlace = paper.seenThrough(writer.tail);
        int from = Math.min(cursorPlace, tailPlace);
        int to = Math.max(cursorPlace, tailPlace);
        if (from == to) {
            from = cursorPlace - 1;
        }
        if (from < 0) {
            throw new IllegalStateException("nothing to erase");
        }
        checkRoomFor(to - from);
        // The elements are picked ahead of the acts, as places change with each of these.
        int count = paper.pickSeen(from, to, picked);
        for (int i = 0; i < count && i < picked.length; i++) {
            make(writer, REMOVE, picked[i], NONE, 0, writer.proposing);
        }
        if (cursorPlace > tailPlace) {
            writer.cursor = writer.tail;
        } else if (tailPlace > cursorPlace) {
            writer.tail = writer.cursor;
        }
        return count;
    }

    public int moveTo(int site, int place) throws IndexOutOfBoundsException {
        Site mover = siteAt(site);
        Paper paper = paperOf(mover);
        int target = standAt(paper, place);
        int before = paper.seenThrough(mover.cursor);
        mover.cursor = target;
        mover.tail = target;
        return before;
    }

    public int extend(int site, int place) throws IndexOutOfBoundsException {
        Site mover = siteAt(site);
        Paper paper = paperOf(mover);
        mover.cursor = standAt(paper, place);
        int tailPlace = paper.seenThrough(mover.tail);
        return Math.max(place, tailPlace) - Math.min(place, tailPlace);
    }

    public int mark(int site, int mark, boolean on) throws IndexOutOfBoundsException, IllegalArgumentException, IllegalStateException {
        Site writer = siteAt(site);
        checkMark(mark);
        return writeOnSelection(writer, paperOf(writer), MARK, mark, on);
    }

    public int comment(int site) throws IndexOutOfBoundsException, IllegalStateException {
        Site writer = siteAt(site);
        if (book.comments >= MOST_COMMENTS) {
            throw new IllegalStateException("too many comments");
        }
        return writeOnSelection(writer, paperOf(writer), COMMENT, book.comments, false);
    }

    public int setKind(int site, int block, int kind) throws IndexOutOfBoundsException, IllegalArgumentException, IllegalStateException {
        Site writer = siteAt(site);
        Paper paper = paperOf(writer);
        int number = blockAt(paper, block);
        if (kind < 0 || kind >= BLOCK_KINDS) {
            throw new IllegalArgumentException("no such kind");
        }
        checkMayWriteIn(paper, writer, number);
        return make(writer, KIND, number, NONE, kind, false);
    }

    public int nest(int site, int block, int under) throws IndexOutOfBoundsException, IllegalStateException {
        Site writer = siteAt(site);
        Paper paper = paperOf(writer);
        int number = blockAt(paper, block);
        int above = under == NONE ? NO_BLOCK : blockAt(paper, under);
        checkMayWriteIn(paper, writer, number);
        return make(writer, NEST, number, above, 0, false);
    }

    public boolean propose(int site, boolean on) throws IndexOutOfBoundsException {
        Site writer = siteAt(site);
        boolean before = writer.proposing;
        writer.proposing = on;
        return before;
    }

    public int decide(int site, int act, boolean accepts) throws IndexOutOfBoundsException, IllegalStateException {
        Site writer = siteAt(site);
        checkHeld(writer, act);
        if (!paperOf(writer).mayDecide(writer.number, act)) {
            throw new IllegalStateException("no proposal that the site may decide");
        }
        checkRoomFor(1);
        return make(writer, accepts ? ACCEPT : REFUSE, act, NONE, 0, false);
    }

    public int allow(int block, int other, int level) throws IndexOutOfBoundsException, IllegalArgumentException, IllegalStateException {
        Site writer = siteAt(0);
        int number = blockAt(paperOf(writer), block);
        if (other < 1 || other >= SITES) {
            throw new IndexOutOfBoundsException("no such site");
        }
        if (level < WRITE || level > READ) {
            throw new IllegalArgumentException("no such level");
        }
        checkRoomFor(1);
        return make(writer, ALLOW, number, other, level, false);
    }

    public int undo(int site) throws IndexOutOfBoundsException, IllegalStateException {
        Site writer = siteAt(site);
        int act = lastNotUndone(writer, paperOf(writer));
        if (act == NONE) {
            throw new IllegalStateException("nothing to undo");
        }
        checkRoomFor(1);
        make(writer, UNDO, act, NONE, 0, false);
        return act;
    }

    public int redo(int site) throws IndexOutOfBoundsException, IllegalStateException {
        Site writer = siteAt(site);
        int act = lastToRedo(writer, paperOf(writer));
        if (act == NONE) {
            throw new IllegalStateException("nothing to redo");
        }
        checkRoomFor(1);
        make(writer, REDO, act, NONE, 0, false);
        return act;
    }

    // ---- messages, journals, versions

    public int send(int from, int to) throws IndexOutOfBoundsException, IllegalArgumentException, IllegalStateException {
        Site sender = siteAt(from);
        Site receiver = siteAt(to);
        if (from == to) {
            throw new IllegalArgumentException("a site sends to another one");
        }
        if (messageCount >= messages.length) {
            throw new IllegalStateException("too many messages");
        }
        messages[messageCount] = new Message(sender, receiver.number);
        messageCount++;
        return messageCount - 1;
    }

    public int deliver(int message) throws IndexOutOfBoundsException {
        Message parcel = messageAt(message);
        Site receiver = siteAt(parcel.receiver);
        int before = receiver.held.size;
        for (int place = 0; place < book.made; place++) {
            int act = book.inOrder(place);
            if (parcel.acts.contains(act)) {
                receiver.take(act, book.countOf(act));
            }
        }
        receiver.learn(parcel.known);
        int news = receiver.held.size - before;
        if (news > 0) {
            receiver.fresh = false;
        }
        return news;
    }

    public int save(int site) throws IndexOutOfBoundsException {
        Site saver = siteAt(site);
        int unsafe = saver.unsafeCount();
        saver.makeAllSafe();
        return unsafe;
    }

    public int crash(int site, int acts) throws IndexOutOfBoundsException, IllegalArgumentException {
        Site loser = siteAt(site);
        if (acts < 0 || acts > loser.unsafeCount()) {
            throw new IllegalArgumentException("not so many acts are unsafe");
        }
        for (int i = 0; i < acts; i++) {
            loser.loseLast();
        }
        if (acts > 0) {
            loser.fresh = false;
        }
        return loser.held.size;
    }

    public int name(int site) throws IndexOutOfBoundsException, IllegalStateException {
        Site namer = siteAt(site);
        if (versionCount >= versions.length) {
            throw new IllegalStateException("too many versions");
        }
        versions[versionCount] = new ActSet();
        versions[versionCount].copyFrom(namer.held);
        versionCount++;
        return versionCount - 1;
    }

    public int bringBack(int site, int version) throws IndexOutOfBoundsException, IllegalStateException {
        Site writer = siteAt(site);
        ActSet wanted = versionAt(version);
        if (!writer.held.containsAll(wanted)) {
            throw new IllegalStateException("the site lacks acts of the version");
        }
        Paper paper = paperOf(writer);
        scratch.doAll(wanted);
        int count = paper.pickDifferent(scratch, picked);
        checkRoomFor(count);
        for (int i = 0; i < count && i < picked.length; i++) {
            int kind = paper.isShown(picked[i]) ? REMOVE : RESTORE;
            make(writer, kind, picked[i], NONE, 0, false);
        }
        return count;
    }

    public int differ(int version, int other) throws IndexOutOfBoundsException {
        ActSet one = versionAt(version);
        ActSet another = versionAt(other);
        scratch.doAll(one);
        otherScratch.doAll(another);
        int count = 0;
        for (int element = 0; element < book.made; element++) {
            if (scratch.isShown(element) != otherScratch.isShown(element)) {
                count++;
            }
        }
        return count;
    }

    // ---- documents of sites

    public int length(int site) throws IndexOutOfBoundsException {
        return paperOf(siteAt(site)).countSeen();
    }

    public int shown(int site) throws IndexOutOfBoundsException {
        return paperOf(siteAt(site)).countShown();
    }

    public int element(int site, int place) throws IndexOutOfBoundsException {
        return elementAt(paperOf(siteAt(site)), place);
    }

    public int elementAnew(int site, int place) throws IndexOutOfBoundsException {
        scratch.doAll(siteAt(site).held);
        return elementAt(scratch, place);
    }

    public char letter(int site, int place) throws IndexOutOfBoundsException {
        return (char) book.valueOf(elementAt(paperOf(siteAt(site)), place));
    }

    public int proposed(int site, int place) throws IndexOutOfBoundsException {
        Paper paper = paperOf(siteAt(site));
        return paper.proposalsFor(elementAt(paper, place));
    }

    public int open(int site) throws IndexOutOfBoundsException {
        return paperOf(siteAt(site)).countOpen();
    }

    public boolean isMarked(int site, int place, int mark) throws IndexOutOfBoundsException, IllegalArgumentException {
        Paper paper = paperOf(siteAt(site));
        int element = elementAt(paper, place);
        checkMark(mark);
        return paper.hasBit(element, 1 << mark);
    }

    public int covered(int site, int act) throws IndexOutOfBoundsException {
        Site reader = siteAt(site);
        checkHeld(reader, act);
        if (book.kindOf(act) != COMMENT) {
            return NONE;
        }
        return paperOf(reader).countSeenWith(commentBit(book.valueOf(act)));
    }

    public int blocks(int site) throws IndexOutOfBoundsException {
        return paperOf(siteAt(site)).countBlocks();
    }

    public int kind(int site, int block) throws IndexOutOfBoundsException {
        Paper paper = paperOf(siteAt(site));
        return paper.kindOf(blockAt(paper, block));
    }

    public int depth(int site, int block) throws IndexOutOfBoundsException {
        Paper paper = paperOf(siteAt(site));
        return paper.depthOf(blockAt(paper, block));
    }

    public int level(int site, int block) throws IndexOutOfBoundsException {
        Paper paper = paperOf(siteAt(site));
        return paper.levelIn(site, blockAt(paper, block));
    }

    public int cursor(int site) throws IndexOutOfBoundsException {
        Site reader = siteAt(site);
        return paperOf(reader).seenThrough(reader.cursor);
    }

    public int tail(int site) throws IndexOutOfBoundsException {
        Site reader = siteAt(site);
        return paperOf(reader).seenThrough(reader.tail);
    }

    public int graves(int site) throws IndexOutOfBoundsException {
        return paperOf(siteAt(site)).countGraves();
    }

    public int buried(int site) throws IndexOutOfBoundsException {
        Site reader = siteAt(site);
        collectHadByAll(reader);
        scratch.doAll(scratchSet);
        Paper paper = paperOf(reader);
        int count = 0;
        for (int element = 0; element < book.made; element++) {
            if (paper.isGrave(element) && scratch.isGrave(element)) {
                count++;
            }
        }
        return count;
    }

    // ---- acts

    public int acts() {
        return book.made;
    }

    public int has(int site) throws IndexOutOfBoundsException {
        return siteAt(site).held.size;
    }

    public int actAt(int site, int place) throws IndexOutOfBoundsException {
        Site reader = siteAt(site);
        if (place < 0 || place >= reader.held.size) {
            throw new IndexOutOfBoundsException("the site does not have so many acts");
        }
        int ahead = 0;
        for (int at = 0; at < book.made; at++) {
            int act = book.inOrder(at);
            if (reader.held.contains(act)) {
                if (ahead == place) {
                    return act;
                }
                ahead++;
            }
        }
        return NONE;
    }

    public int act(int act) throws IndexOutOfBoundsException {
        if (act < 0 || act >= book.made) {
            throw new IndexOutOfBoundsException("no such act");
        }
        return 1000 * book.countOf(act) + 100 * book.siteOf(act) + book.kindOf(act);
    }

    public boolean isUndone(int site, int act) throws IndexOutOfBoundsException {
        Site reader = siteAt(site);
        checkHeld(reader, act);
        return paperOf(reader).wasUndone(act);
    }

    // ---- what the calls share

    private Site siteAt(int site) {
        if (site < 0 || site >= sites.length || sites[site] == null) {
            throw new IndexOutOfBoundsException("no such site");
        }
        return sites[site];
    }

    private Message messageAt(int message) {
        if (message < 0 || message >= messages.length || messages[message] == null) {
            throw new IndexOutOfBoundsException("no such message");
        }
        return messages[message];
    }

    private ActSet versionAt(int version) {
        if (version < 0 || version >= versions.length || versions[version] == null) {
            throw new IndexOutOfBoundsException("no such version");
        }
        return versions[version];
    }

    private static int elementAt(Paper paper, int place) {
        int element = paper.seenAt(place);
        if (element == NONE) {
            throw new IndexOutOfBoundsException("no such place");
        }
        return element;
    }

    private static int standAt(Paper paper, int place) {
        return place == 0 ? NONE : elementAt(paper, place - 1);
    }

    private static int blockAt(Paper paper, int place) {
        int block = paper.shownBlock(place);
        if (block == NO_BLOCK) {
            throw new IndexOutOfBoundsException("no such block");
        }
        return block;
    }

    private static void checkHeld(Site site, int act) {
        if (!site.held.contains(act)) {
            throw new IndexOutOfBoundsException("the site has no such act");
        }
    }

    private static void checkMark(int mark) {
        if (mark != BOLD && mark != LINK) {
            throw new IllegalArgumentException("no such mark");
        }
    }

    private void checkRoomFor(int acts) {
        if (acts > MOST_ACTS - book.made) {
            throw new IllegalStateException("too many acts");
        }
    }

    private void checkMayWriteIn(Paper paper, Site writer, int block) {
        if (paper.levelIn(writer.number, block) != WRITE) {
            throw new IllegalStateException("the site may not write in the block");
        }
        checkRoomFor(1);
    }

    private static int commentBit(int comment) {
        return 1 << (FIRST_COMMENT_BIT + comment);
    }

    private static Paper paperOf(Site site) {
        if (!site.fresh) {
            site.paper.doAll(site.held);
            site.fresh = true;
        }
        return site.paper;
    }

    private int writeBehindCursor(Site writer, Paper paper, int kind, char sign) {
        int block = paper.blockOf(writer.cursor);
        if (paper.levelIn(writer.number, block) == READ) {
            throw new IllegalStateException("the site may only read there");
        }
        checkRoomFor(1);
        int act = make(writer, kind, writer.cursor, NONE, sign, writer.proposing);
        writer.cursor = act;
        writer.tail = act;
        return act;
    }

    private int writeOnSelection(Site writer, Paper paper, int kind, int value, boolean flag) {
        int cursorPlace = paper.seenThrough(writer.cursor);
        int tailPlace = paper.seenThrough(writer.tail);
        if (cursorPlace == tailPlace) {
            throw new IllegalStateException("nothing is selected");
        }
        checkRoomFor(1);
        int first = paper.seenAt(Math.min(cursorPlace, tailPlace));
        int last = paper.seenAt(Math.max(cursorPlace, tailPlace) - 1);
        return make(writer, kind, first, last, value, flag);
    }

    private int make(Site writer, int kind, int first, int second, int value, boolean flag) {
        int count = writer.clock + 1;
        int act = book.enter(writer.number, count, kind, first, second, value, flag);
        writer.take(act, count);
        if (kind == UNDO || kind == REDO) {
            writer.fresh = false;
        } else if (writer.fresh) {
            // A new act is the last one in order of those of its site, so it can be done by itself.
            writer.paper.perform(act);
        }
        return act;
    }

    private int lastNotUndone(Site writer, Paper paper) {
        for (int place = book.made - 1; place >= 0; place--) {
            int act = book.inOrder(place);
            if (madeAndHas(writer, act) && book.isUndoable(act) && !paper.wasUndone(act)) {
                return act;
            }
        }
        return NONE;
    }

    private int lastToRedo(Site writer, Paper paper) {
        for (int place = book.made - 1; place >= 0; place--) {
            int act = book.inOrder(place);
            if (!madeAndHas(writer, act)) {
                continue;
            }
            if (book.isUndoable(act)) {
                return NONE;
            }
            if (book.kindOf(act) == UNDO && paper.wasUndone(book.firstOf(act))) {
                return book.firstOf(act);
            }
        }
        return NONE;
    }

    private boolean madeAndHas(Site writer, int act) {
        return book.siteOf(act) == writer.number && writer.held.contains(act);
    }

    private void collectHadByAll(Site reader) {
        for (int act = 0; act < owners.length; act++) {
            owners[act] = 0;
        }
        for (int owner = 0; owner < SITES; owner++) {
            siteAt(owner).countFirst(reader.knownOf(owner), owners);
        }
        scratchSet.clear();
        for (int act = 0; act < owners.length; act++) {
            if (owners[act] == SITES) {
                scratchSet.add(act);
            }
        }
    }

    /** All acts that were made at any site, by their numbers and in their order. */
    private static final class Book {
        private final int[] writers = new int[MOST_ACTS];
        private final int[] counts = new int[MOST_ACTS];
        private final int[] kinds = new int[MOST_ACTS];
        // What an act names: an element, a block or an act.
        private final int[] firsts = new int[MOST_ACTS];
        // The last element of MARK and COMMENT, the block above of NEST, the site of ALLOW.
        private final int[] seconds = new int[MOST_ACTS];
        // The letter, mark, kind or level; of a COMMENT, how many came before it.
        private final int[] values = new int[MOST_ACTS];
        // Whether it was made as a proposal; of a MARK, whether it is on.
        private final boolean[] flags = new boolean[MOST_ACTS];
        private final int[] order = new int[MOST_ACTS];
        private int made;
        private int comments;

        int enter(int writer, int count, int kind, int first, int second, int value, boolean flag) {
            if (made >= MOST_ACTS) {
                return NONE;
            }
            int act = made;
            writers[act] = writer;
            counts[act] = count;
            kinds[act] = kind;
            firsts[act] = first;
            seconds[act] = second;
            values[act] = value;
            flags[act] = flag;
            if (kind == COMMENT) {
                comments++;
            }
            made++;
            putInOrder(act);
            return act;
        }

        private void putInOrder(int act) {
            int place = made - 1;
            while (place > 0 && comesBefore(act, order[place - 1])) {
                order[place] = order[place - 1];
                place--;
            }
            order[place] = act;
        }

        private boolean comesBefore(int act, int other) {
            if (countOf(act) != countOf(other)) {
                return countOf(act) < countOf(other);
            }
            return siteOf(act) < siteOf(other);
        }

        int inOrder(int place) {
            return place >= 0 && place < made ? order[place] : NONE;
        }

        int siteOf(int act) {
            return act >= 0 && act < made ? writers[act] : NONE;
        }

        int countOf(int act) {
            return act >= 0 && act < made ? counts[act] : 0;
        }

        int kindOf(int act) {
            return act >= 0 && act < made ? kinds[act] : NONE;
        }

        int firstOf(int act) {
            return act >= 0 && act < made ? firsts[act] : NONE;
        }

        int secondOf(int act) {
            return act >= 0 && act < made ? seconds[act] : NONE;
        }

        int valueOf(int act) {
            return act >= 0 && act < made ? values[act] : 0;
        }

        boolean flagOf(int act) {
            return act >= 0 && act < made && flags[act];
        }

        boolean makesElement(int act) {
            return act >= 0 && act < made && (kinds[act] == TYPE || kinds[act] == SPLIT);
        }

        boolean isUndoable(int act) {
            return act >= 0 && act < made && kinds[act] <= COMMENT;
        }
    }

    /** A set of acts. */
    private static final class ActSet {
        private final boolean[] members = new boolean[MOST_ACTS];
        private int size;

        boolean contains(int act) {
            return act >= 0 && act < members.length && members[act];
        }

        void add(int act) {
            if (act >= 0 && act < members.length && !members[act]) {
                members[act] = true;
                size++;
            }
        }

        void drop(int act) {
            if (contains(act)) {
                members[act] = false;
                size--;
            }
        }

        void clear() {
            for (int act = 0; act < members.length; act++) {
                members[act] = false;
            }
            size = 0;
        }

        void copyFrom(ActSet other) {
            for (int act = 0; act < members.length; act++) {
                members[act] = other.contains(act);
            }
            size = other.size;
        }

        boolean containsAll(ActSet other) {
            for (int act = 0; act < members.length; act++) {
                if (other.contains(act) && !members[act]) {
                    return false;
                }
            }
            return true;
        }
    }

    /** A message: the acts that the sender had, and what it knew of all sites. */
    private static final class Message {
        private final int receiver;
        private final ActSet acts = new ActSet();
        private final int[] known;

        Message(Site sender, int receiver) {
            this.receiver = receiver;
            acts.copyFrom(sender.held);
            known = sender.known.clone();
        }
    }

    /** A site with its journal, what it knows, where it stands, and its document. */
    private static final class Site {
        private final int number;
        private final ActSet held = new ActSet();
        // As long as held is large.
        private final int[] journal = new int[MOST_ACTS];
        // How many of the first acts of each site's journal are known to be safe there. What is
        // safe is never lost, so such a beginning never changes; of itself a site knows all.
        private final int[] known = new int[SITES];
        private final Paper paper;
        // Whether the paper is the document of the acts held.
        private boolean fresh = true;
        private boolean proposing;
        private int clock;
        private int cursor = NONE;
        private int tail = NONE;

        Site(int number, Book book) {
            this.number = number;
            paper = new Paper(book);
        }

        void take(int act, int count) {
            if (held.contains(act) || held.size >= journal.length) {
                return;
            }
            journal[held.size] = act;
            held.add(act);
            clock = Math.max(clock, count);
        }

        void loseLast() {
            int last = held.size - 1;
            if (last < 0 || last >= journal.length) {
                return;
            }
            int act = journal[last];
            held.drop(act);
            if (cursor == act) {
                cursor = NONE;
            }
            if (tail == act) {
                tail = NONE;
            }
        }

        void learn(int[] told) {
            for (int site = 0; site < known.length && site < told.length; site++) {
                known[site] = Math.max(known[site], told[site]);
            }
        }

        int knownOf(int site) {
            return site >= 0 && site < known.length ? known[site] : 0;
        }

        int unsafeCount() {
            return held.size - knownOf(number);
        }

        void makeAllSafe() {
            if (number >= 0 && number < known.length) {
                known[number] = held.size;
            }
        }

        void countFirst(int many, int[] counts) {
            for (int place = 0; place < many && place < journal.length; place++) {
                int act = journal[place];
                if (act >= 0 && act < counts.length) {
                    counts[act]++;
                }
            }
        }
    }

    /** The document of a set of acts. */
    private static final class Paper {
        private final Book book;
        private final int[] row = new int[MOST_ACTS];
        private int rowSize;
        // By the numbers of elements.
        private final int[] states = new int[MOST_ACTS];
        private final boolean[] breaks = new boolean[MOST_ACTS];
        private final boolean[] removed = new boolean[MOST_ACTS];
        private final int[] bits = new int[MOST_ACTS];
        // By the numbers of acts: proposals to remove that were neither accepted nor refused.
        private final boolean[] asked = new boolean[MOST_ACTS];
        private final boolean[] undone = new boolean[MOST_ACTS];
        // By the numbers of blocks, 1 added, as the first one has the number NONE.
        private final int[] kinds = new int[MOST_BLOCKS];
        private final int[] aboves = new int[MOST_BLOCKS];
        private final int[][] levels = new int[SITES][MOST_BLOCKS];

        Paper(Book book) {
            this.book = book;
            for (int block = 0; block < MOST_BLOCKS; block++) {
                aboves[block] = NO_BLOCK;
            }
        }

        // What belongs to acts that were not made yet is as it was in a new paper.
        private void clear() {
            rowSize = 0;
            for (int act = 0; act < book.made && act < MOST_ACTS; act++) {
                states[act] = ABSENT;
                breaks[act] = false;
                removed[act] = false;
                bits[act] = 0;
                asked[act] = false;
                undone[act] = false;
            }
            for (int block = 0; block <= book.made && block < MOST_BLOCKS; block++) {
                kinds[block] = 0;
                aboves[block] = NO_BLOCK;
                for (int site = 0; site < SITES; site++) {
                    levels[site][block] = WRITE;
                }
            }
        }

        // ---- doing acts

        void doAll(ActSet acts) {
            clear();
            findUndone(acts);
            for (int place = 0; place < book.made; place++) {
                int act = book.inOrder(place);
                if (acts.contains(act)) {
                    perform(act);
                }
            }
        }

        private void findUndone(ActSet acts) {
            for (int place = 0; place < book.made; place++) {
                int act = book.inOrder(place);
                int kind = book.kindOf(act);
                int named = book.firstOf(act);
                if ((kind == UNDO || kind == REDO) && acts.contains(act) && isNumber(named)) {
                    undone[named] = kind == UNDO;
                }
            }
        }

        void perform(int act) {
            int kind = book.kindOf(act);
            // What is typed comes into the row even if it is undone.
            if (wasUndone(act) && kind != TYPE && kind != SPLIT) {
                return;
            }
            switch (kind) {
                case TYPE:
                case SPLIT:
                    putElement(act);
                    break;
                case REMOVE:
                    removeElement(act);
                    break;
                case RESTORE:
                    restoreElement(act);
                    break;
                case MARK:
                    paint(act, 1 << book.valueOf(act), book.flagOf(act));
                    break;
                case KIND:
                    giveKind(act);
                    break;
                case NEST:
                    putUnder(act);
                    break;
                case COMMENT:
                    paint(act, commentBit(book.valueOf(act)), true);
                    break;
                case ACCEPT:
                case REFUSE:
                    settle(act);
                    break;
                case ALLOW:
                    giveLevel(act);
                    break;
                default:
                    break;
            }
        }

        private void putElement(int act) {
            int after = book.firstOf(act);
            int place = placeOf(after) + 1;
            if (!isNumber(act) || rowSize >= row.length || place < 0 || place > rowSize) {
                return;
            }
            int level = levelIn(book.siteOf(act), blockOf(after));
            breaks[act] = book.kindOf(act) == SPLIT;
            if (undone[act] || level == READ) {
                states[act] = VOID;
            } else if (level == SUGGEST || book.flagOf(act)) {
                states[act] = PROPOSED;
            } else {
                states[act] = PLAIN;
            }
            int ahead = bitsOf(inRow(place - 1));
            int behind = bitsOf(inRow(place));
            // BOLD grows behind its last element; all others need both neighbours.
            bits[act] = ahead & (behind | BOLD_BIT);
            System.arraycopy(row, place, row, place + 1, rowSize - place);
            row[place] = act;
            rowSize++;
        }

        private void removeElement(int act) {
            int element = book.firstOf(act);
            int writer = book.siteOf(act);
            int level = levelIn(writer, blockOf(element));
            if (!isNumber(element) || !isNumber(act) || level == READ) {
                return;
            }
            boolean takesBack = states[element] == PROPOSED && book.siteOf(element) == writer;
            if (takesBack || level == WRITE && !book.flagOf(act)) {
                removed[element] = true;
            } else {
                asked[act] = true;
            }
        }

        private void restoreElement(int act) {
            int element = book.firstOf(act);
            if (isNumber(element) && levelIn(book.siteOf(act), blockOf(element)) == WRITE) {
                removed[element] = false;
            }
        }

        private void paint(int act, int bit, boolean on) {
            int first = book.firstOf(act);
            int last = book.secondOf(act);
            int writer = book.siteOf(act);
            boolean heedsLevel = book.kindOf(act) == MARK;
            boolean inside = false;
            int block = NONE;
            for (int place = 0; place < rowSize; place++) {
                int element = inRow(place);
                if (isShownBreak(element)) {
                    block = element;
                }
                if (element == first) {
                    inside = true;
                }
                if (inside && isNumber(element) && (!heedsLevel || levelIn(writer, block) == WRITE)) {
                    bits[element] = on ? bits[element] | bit : bits[element] & ~bit;
                }
                if (element == last) {
                    return;
                }
            }
        }

        private void giveKind(int act) {
            int block = book.firstOf(act);
            if (isBlock(block) && levelIn(book.siteOf(act), block) == WRITE) {
                kinds[block + 1] = book.valueOf(act);
            }
        }

        private void putUnder(int act) {
            int block = book.firstOf(act);
            int above = book.secondOf(act);
            if (isBlock(block) && levelIn(book.siteOf(act), block) == WRITE && !comesTo(above, block)) {
                aboves[block + 1] = above;
            }
        }

        private boolean comesTo(int from, int block) {
            int at = from;
            for (int steps = 0; steps < MOST_BLOCKS && isBlock(at); steps++) {
                if (at == block) {
                    return true;
                }
                at = aboves[at + 1];
            }
            return false;
        }

        private void settle(int act) {
            int proposal = book.firstOf(act);
            int element = elementOf(proposal);
            boolean accepts = book.kindOf(act) == ACCEPT;
            if (!isNumber(element) || !isOpen(proposal) || levelIn(book.siteOf(act), blockOf(element)) != WRITE) {
                return;
            }
            if (element == proposal) {
                states[element] = accepts ? PLAIN : VOID;
            } else {
                // What is open is seen, so a refusal leaves its element as it is: not removed.
                asked[proposal] = false;
                removed[element] = accepts;
            }
        }

        private void giveLevel(int act) {
            int block = book.firstOf(act);
            int site = book.secondOf(act);
            if (isBlock(block) && site > 0 && site < SITES) {
                levels[site][block + 1] = book.valueOf(act);
            }
        }

        // ---- asking about acts

        private static boolean isNumber(int act) {
            return act >= 0 && act < MOST_ACTS;
        }

        boolean wasUndone(int act) {
            return isNumber(act) && undone[act];
        }

        boolean mayDecide(int site, int proposal) {
            return isOpen(proposal) && levelIn(site, blockOf(elementOf(proposal))) == WRITE;
        }

        private int elementOf(int proposal) {
            return book.makesElement(proposal) ? proposal : book.firstOf(proposal);
        }

        private boolean isOpen(int proposal) {
            if (proposal < 0 || proposal >= MOST_ACTS) {
                return false;
            }
            boolean isProposed = states[proposal] == PROPOSED && !removed[proposal];
            return isProposed || asked[proposal] && isSeen(book.firstOf(proposal));
        }

        int countOpen() {
            int count = 0;
            for (int act = 0; act < book.made; act++) {
                if (isOpen(act)) {
                    count++;
                }
            }
            return count;
        }

        int proposalsFor(int element) {
            boolean isProposed = isNumber(element) && states[element] == PROPOSED;
            boolean removalAsked = false;
            for (int act = 0; act < book.made && act < MOST_ACTS; act++) {
                if (asked[act] && book.firstOf(act) == element) {
                    removalAsked = true;
                }
            }
            return (isProposed ? 1 : 0) + (removalAsked ? 2 : 0);
        }

        // ---- asking about elements

        boolean isSeen(int element) {
            if (element < 0 || element >= MOST_ACTS || removed[element]) {
                return false;
            }
            return states[element] == PLAIN || states[element] == PROPOSED;
        }

        boolean isShown(int element) {
            return element >= 0 && element < MOST_ACTS && states[element] == PLAIN && !removed[element];
        }

        boolean isGrave(int element) {
            return isNumber(element) && states[element] != ABSENT && !isSeen(element);
        }

        private boolean isShownBreak(int element) {
            return element >= 0 && element < MOST_ACTS && breaks[element] && states[element] == PLAIN && !removed[element];
        }

        private int bitsOf(int element) {
            return isNumber(element) ? bits[element] : 0;
        }

        boolean hasBit(int element, int bit) {
            return (bitsOf(element) & bit) != 0;
        }

        private int inRow(int place) {
            return place >= 0 && place < rowSize && place < row.length ? row[place] : NONE;
        }

        private int placeOf(int element) {
            for (int place = 0; place < rowSize; place++) {
                if (inRow(place) == element) {
                    return place;
                }
            }
            return NONE;
        }

        int seenAt(int wanted) {
            int ahead = 0;
            for (int place = 0; place < rowSize; place++) {
                if (isSeen(inRow(place))) {
                    if (ahead == wanted) {
                        return inRow(place);
                    }
                    ahead++;
                }
            }
            return NONE;
        }

        int seenThrough(int element) {
            int count = 0;
            for (int place = 0; place < rowSize; place++) {
                if (isSeen(inRow(place))) {
                    count++;
                }
                if (inRow(place) == element) {
                    return count;
                }
            }
            return 0;
        }

        int pickSeen(int from, int to, int[] target) {
            int count = 0;
            int ahead = 0;
            for (int place = 0; place < rowSize; place++) {
                if (isSeen(inRow(place))) {
                    if (ahead >= from && ahead < to && count < target.length) {
                        target[count] = inRow(place);
                        count++;
                    }
                    ahead++;
                }
            }
            return count;
        }

        int pickDifferent(Paper other, int[] target) {
            int count = 0;
            for (int place = 0; place < rowSize; place++) {
                int element = inRow(place);
                if (isShown(element) != other.isShown(element) && count < target.length) {
                    target[count] = element;
                    count++;
                }
            }
            return count;
        }

        int countSeen() {
            int count = 0;
            for (int place = 0; place < rowSize; place++) {
                if (isSeen(inRow(place))) {
                    count++;
                }
            }
            return count;
        }

        int countShown() {
            int count = 0;
            for (int place = 0; place < rowSize; place++) {
                if (isShown(inRow(place))) {
                    count++;
                }
            }
            return count;
        }

        int countGraves() {
            return rowSize - countSeen();
        }

        int countSeenWith(int bit) {
            int count = 0;
            for (int place = 0; place < rowSize; place++) {
                if (isSeen(inRow(place)) && hasBit(inRow(place), bit)) {
                    count++;
                }
            }
            return count;
        }

        // ---- asking about blocks

        private static boolean isBlock(int block) {
            return block >= NONE && block < MOST_ACTS;
        }

        private int blockOf(int element) {
            int block = NONE;
            for (int place = 0; place < rowSize; place++) {
                if (isShownBreak(inRow(place))) {
                    block = inRow(place);
                }
                if (inRow(place) == element) {
                    return block;
                }
            }
            return NONE;
        }

        int levelIn(int site, int block) {
            return site > 0 && site < SITES && isBlock(block) ? levels[site][block + 1] : WRITE;
        }

        int countBlocks() {
            int count = 1;
            for (int place = 0; place < rowSize; place++) {
                if (isShownBreak(inRow(place))) {
                    count++;
                }
            }
            return count;
        }

        int shownBlock(int wanted) {
            if (wanted == 0) {
                return NONE;
            }
            int ahead = 1;
            for (int place = 0; place < rowSize; place++) {
                if (isShownBreak(inRow(place))) {
                    if (ahead == wanted) {
                        return inRow(place);
                    }
                    ahead++;
                }
            }
            return NO_BLOCK;
        }

        int kindOf(int block) {
            return isBlock(block) ? kinds[block + 1] : 0;
        }

        int depthOf(int block) {
            int depth = 0;
            int at = isBlock(block) ? aboves[block + 1] : NO_BLOCK;
            for (int steps = 0; steps < MOST_BLOCKS && isBlock(at); steps++) {
                if (at == NONE || isShownBreak(at)) {
                    depth++;
                }
                at = aboves[at + 1];
            }
            return depth;
        }
    }
}
