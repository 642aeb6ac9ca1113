/**
 * The comments of types and members: read from a tape, taken over from the members above, laid out on
 * pages, and noted where they lack or tell too much. The document ../shared/DOC.md holds the promises.
 */
public final class DocFormat {
    public static final int NONE = -1, BAD = -1, STATE = -2, FULL = -3;

    /** BAD where -1 is an answer of its own. */
    private static final int ABSENT = -9;
    /** A FAULT at place p is answered as this less p. */
    private static final int FAULT_BASE = -10;

    private static final int TAPE_ROOM = 600;
    private static final int FEED_SIZE = 20;
    private static final int NAME_ROOM = 10;
    private static final int NUMBER_ROOM = 4;
    private static final int ENTRY_ROOM = 40;
    private static final int PARAMETER_ROOM = 4;
    private static final int BLOCK_ROOM = 24;
    private static final int PIECE_ROOM = 120;
    private static final int SHOWN_ROOM = 60;
    private static final int PAGE_ROOM = 4000;
    private static final int DEEPEST = 2;
    private static final int NARROWEST = 12;
    private static final int WIDEST = 60;

    private static final int PARAGRAPH = 0;
    private static final int ITEM = 1;
    private static final int PARAM = 2;
    private static final int RETURN = 3;
    private static final int THROWS = 4;
    private static final int SEE = 5;
    private static final int SINCE = 6;
    private static final int INHERIT = 7;

    private static final int WORD = 0;
    private static final int CODE = 1;
    private static final int LINK = 2;

    private static final int ODD_BYTE = 1;
    private static final int MISPLACED = 2;
    private static final int WRONG_DEPTH = 3;
    private static final int TOO_MANY = 4;
    private static final int TWICE = 5;

    private static final int LEAST = 1;

    private static final String INHERIT_SIGN = "{inherit}";
    private static final String CODE_SIGN = "{code ";
    private static final String LINK_SIGN = "{link ";

    private final Text tape;
    private final Register register;
    private final Reader reader;
    private final Layout layout;
    private final Notes found;
    /** Where a comment is read to, so that a FAULT leaves the old one as it was. */
    private Comment draft;
    private Page shown;
    /** Where a page is laid out, so that a FULL one leaves the old one as it was. */
    private Page spare;

    public DocFormat() {
        tape = new Text(TAPE_ROOM);
        register = new Register();
        reader = new Reader();
        layout = new Layout();
        found = new Notes();
        draft = new Comment();
        shown = new Page();
        spare = new Page();
    }

    public int feed(int a, int b, int c, int d, int e) {
        if (tape.size + FEED_SIZE > TAPE_ROOM) {
            return FULL;
        }
        tape.addNumber(a);
        tape.addNumber(b);
        tape.addNumber(c);
        tape.addNumber(d);
        tape.addNumber(e);
        return tape.size;
    }

    public int end(int n) {
        int had = tape.size;
        if (n < 0 || n > had) {
            return BAD;
        }
        tape.cut(n);
        return had;
    }

    public int type(int parent) {
        Entry elder = register.typeAt(parent);
        int answer = BAD;
        if ((elder != null || parent == NONE) && tape.isWholeName('A', 'Z')
                && register.typeNamed(tape, 0, tape.size) == null) {
            answer = register.addEntry(null, elder, false, tape);
        }
        tape.cut(0);
        return answer;
    }

    public int member(int type, boolean returns) {
        Entry owner = register.typeAt(type);
        int answer = BAD;
        if (owner != null && tape.isWholeName('a', 'z')
                && register.memberOf(owner, tape, 0, tape.size) == null) {
            answer = register.addEntry(owner, null, returns, tape);
        }
        tape.cut(0);
        return answer;
    }

    public int parameter(int member) {
        Entry owner = register.entryAt(member);
        int answer = BAD;
        if (owner != null && !owner.isType() && tape.isWholeName('a', 'z')
                && !owner.hasParameter(tape, 0, tape.size)) {
            answer = owner.addParameter(tape);
        }
        tape.cut(0);
        return answer;
    }

    public int comment(int entry) {
        Entry holder = register.entryAt(entry);
        if (holder == null) {
            tape.cut(0);
            return BAD;
        }
        draft.begin(tape, holder);
        tape.cut(0);
        reader.read(draft);
        return reader.code == 0 ? keepDraft(holder) : FAULT_BASE - reader.place;
    }

    private int keepDraft(Entry holder) {
        Comment read = draft;
        draft = holder.comment == null ? new Comment() : holder.comment;
        holder.comment = read;
        holder.commented = true;
        return read.blockCount;
    }

    public int fault() {
        return reader.code;
    }

    public int bare(int entry) {
        Entry asked = register.entryAt(entry);
        if (asked == null) {
            return BAD;
        }
        Comment own = asked.ownComment();
        if (own == null) {
            return STATE;
        }
        asked.commented = false;
        return own.blockCount;
    }

    public int told(int entry, int what) {
        Entry asked = register.entryAt(entry);
        if (asked == null) {
            return ABSENT;
        }
        Comment own = asked.ownComment();
        switch (what) {
            case 0:
                return numberOf(asked.owner);
            case 1:
                return numberOf(asked.parent);
            case 2:
                return asked.parameterCount;
            case 3:
                return asked.returns ? 1 : 0;
            case 4:
                return numberOf(register.above(asked));
            case 5:
                return numberOf(register.counting(asked));
            case 6:
                return own == null ? 0 : own.blockCount;
            case 7:
                return own == null ? 0 : own.pieceCount;
            default:
                return ABSENT;
        }
    }

    public int block(int entry, int i, int what) {
        Comment own = commentOf(entry);
        Block asked = own == null ? null : own.blockAt(i);
        if (asked == null) {
            return ABSENT;
        }
        switch (what) {
            case 0:
                return asked.sort;
            case 1:
                return asked.depth;
            case 2:
                return asked.pieceCount;
            case 3:
                return asked.place;
            default:
                return ABSENT;
        }
    }

    public int piece(int entry, int i, int what) {
        Comment own = commentOf(entry);
        Piece asked = own == null ? null : own.pieceAt(i);
        if (asked == null) {
            return ABSENT;
        }
        switch (what) {
            case 0:
                return asked.sort;
            case 1:
                return asked.place;
            case 2:
                return asked.shownTo - asked.shownFrom;
            case 3:
                return asked.glued ? 1 : 0;
            case 4:
                return asked.sort != LINK ? NONE
                        : numberOf(register.find(own.text, asked.nameFrom, asked.nameTo, own.holder));
            default:
                return ABSENT;
        }
    }

    public int leads(int entry) {
        Entry asked = register.entryAt(entry);
        int answer = asked == null ? ABSENT : NONE;
        if (asked != null && tape.isReference(0, tape.size)) {
            answer = numberOf(register.find(tape, 0, tape.size, asked));
        }
        tape.cut(0);
        return answer;
    }

    public int page(int entry, int width, int how) {
        Entry asked = register.entryAt(entry);
        if (asked == null || width < NARROWEST || width > WIDEST || how < 0 || how > LEAST) {
            return BAD;
        }
        Entry holder = register.counting(asked);
        layout.clearPlan();
        layout.planStory(register, holder, 0);
        layout.planTags(holder);
        layout.resolvePlan(register);
        layout.compose(spare, asked, width, how);
        if (spare.full) {
            return FULL;
        }
        Page made = spare;
        spare = shown;
        shown = made;
        return shown.lineCount;
    }

    public int about(int what) {
        switch (what) {
            case 0:
                return shown.lineCount;
            case 1:
                return shown.text.size;
            case 2:
                return shown.targetCount;
            case 3:
                return shown.badness;
            case 4:
                return shown.longest;
            default:
                return BAD;
        }
    }

    public int at(int i) {
        return Math.max(0, shown.text.byteAt(i));
    }

    public int line(int i) {
        return i < 0 || i >= shown.lineCount ? BAD : shown.starts[i];
    }

    public int target(int k) {
        return numberOf(shown.targetAt(k));
    }

    public int notes(int entry) {
        Entry asked = register.entryAt(entry);
        if (asked == null) {
            return BAD;
        }
        found.gather(register, asked);
        return found.size;
    }

    public int note(int i, int what) {
        if (i < 0 || i >= found.size) {
            return BAD;
        }
        switch (what) {
            case 0:
                return found.sorts[i];
            case 1:
                return found.numbers[i];
            default:
                return BAD;
        }
    }

    public int count(int what) {
        switch (what) {
            case 0:
                return register.size;
            case 1:
                return register.typeCount();
            case 2:
                return tape.size;
            case 3:
                return register.commentCount();
            default:
                return BAD;
        }
    }

    private Comment commentOf(int entry) {
        Entry asked = register.entryAt(entry);
        return asked == null ? null : asked.ownComment();
    }

    private static int numberOf(Entry entry) {
        return entry == null ? NONE : entry.number;
    }

    private static boolean isWithin(int value, int low, int high) {
        return value >= low && value <= high;
    }

    private static boolean isDigit(int value) {
        return value >= '0' && value <= '9';
    }

    private static boolean isLetter(int value) {
        return value >= 'A' && value <= 'Z' || value >= 'a' && value <= 'z';
    }

    private static boolean isTag(int sort) {
        return sort >= PARAM && sort <= SINCE;
    }

    private static String tagWord(int sort) {
        switch (sort) {
            case PARAM:
                return "param";
            case RETURN:
                return "return";
            case THROWS:
                return "throws";
            case SEE:
                return "see";
            case SINCE:
                return "since";
            default:
                return "";
        }
    }

    /** A row of bytes that never grows beyond its room. */
    private static final class Text {
        private final byte[] bytes;
        private int size;

        private Text(int room) {
            bytes = new byte[Math.max(0, room)];
        }

        private int byteAt(int i) {
            return i < 0 || i >= size ? -1 : bytes[i] & 255;
        }

        private boolean addByte(int value) {
            if (size >= bytes.length) {
                return false;
            }
            bytes[size] = (byte) value;
            size++;
            return true;
        }

        private void addNumber(int number) {
            for (int shift = 24; shift >= 0; shift -= 8) {
                addByte(number >>> shift);
            }
        }

        private void addWord(String word) {
            for (int i = 0; i < word.length(); i++) {
                addByte(word.charAt(i));
            }
        }

        private void addPart(Text other, int from, int to) {
            for (int i = from; i < to; i++) {
                addByte(other.byteAt(i));
            }
        }

        private void cut(int n) {
            if (n >= 0 && n < size) {
                size = n;
            }
        }

        private void become(Text other) {
            size = 0;
            addPart(other, 0, other.size);
        }

        private boolean isPart(Text other, int from, int to) {
            if (from < 0 || to > other.size || to - from != size) {
                return false;
            }
            for (int i = 0; i < size; i++) {
                if (bytes[i] != other.bytes[from + i]) {
                    return false;
                }
            }
            return true;
        }

        private boolean hasWordAt(int from, String word) {
            for (int i = 0; i < word.length(); i++) {
                if (byteAt(from + i) != word.charAt(i)) {
                    return false;
                }
            }
            return true;
        }

        /** The first place of a byte in a part; the part's end without one. */
        private int placeOf(int value, int from, int to) {
            int i = from;
            while (i < to && byteAt(i) != value) {
                i++;
            }
            return i;
        }

        private int skipBlanks(int from, int to) {
            int i = from;
            while (i < to && byteAt(i) == ' ') {
                i++;
            }
            return i;
        }

        private boolean isName(int from, int to) {
            if (to - from > NAME_ROOM || !isLetter(byteAt(from))) {
                return false;
            }
            for (int i = from; i < to; i++) {
                if (!isLetter(byteAt(i)) && !isDigit(byteAt(i))) {
                    return false;
                }
            }
            return from < to;
        }

        private boolean isWholeName(int low, int high) {
            return isName(0, size) && isWithin(byteAt(0), low, high);
        }

        private boolean isReference(int from, int to) {
            int dot = placeOf('.', from, to);
            return isName(from, dot) && (dot == to || isName(dot + 1, to));
        }

        private boolean isNumber(int from, int to) {
            for (int i = from; i < to; i++) {
                if (!isDigit(byteAt(i))) {
                    return false;
                }
            }
            return isWithin(to - from, 1, NUMBER_ROOM);
        }
    }

    /** A TYPE, which has no owner, or a MEMBER. */
    private static final class Entry {
        private final int number;
        private final Text name;
        private final Entry owner;
        private final Entry parent;
        private final boolean returns;
        private final Text[] parameters;
        private int parameterCount;
        /** Kept when the entry is bare, as room for its next one. */
        private Comment comment;
        private boolean commented;

        private Entry(int number, Entry owner, Entry parent, boolean returns) {
            this.number = number;
            this.owner = owner;
            this.parent = parent;
            this.returns = returns;
            name = new Text(NAME_ROOM);
            parameters = new Text[PARAMETER_ROOM];
        }

        private boolean isType() {
            return owner == null;
        }

        private Entry nearestType() {
            return owner == null ? this : owner;
        }

        private Comment ownComment() {
            return commented ? comment : null;
        }

        private Text parameterAt(int i) {
            return i < 0 || i >= parameterCount ? null : parameters[i];
        }

        private boolean hasParameter(Text text, int from, int to) {
            for (int i = 0; i < parameterCount; i++) {
                Text known = parameterAt(i);
                if (known != null && known.isPart(text, from, to)) {
                    return true;
                }
            }
            return false;
        }

        private int addParameter(Text text) {
            if (parameterCount >= parameters.length) {
                return FULL;
            }
            Text added = new Text(NAME_ROOM);
            added.become(text);
            parameters[parameterCount] = added;
            parameterCount++;
            return parameterCount;
        }
    }

    /** All ENTRIES, and what is found by way of their NAMES. */
    private static final class Register {
        private final Entry[] entries;
        private int size;

        private Register() {
            entries = new Entry[ENTRY_ROOM];
        }

        private int addEntry(Entry owner, Entry parent, boolean returns, Text name) {
            if (size >= entries.length) {
                return FULL;
            }
            Entry added = new Entry(size, owner, parent, returns);
            added.name.become(name);
            entries[size] = added;
            size++;
            return added.number;
        }

        private Entry entryAt(int i) {
            return i < 0 || i >= size ? null : entries[i];
        }

        private Entry typeAt(int i) {
            Entry entry = entryAt(i);
            return entry != null && entry.isType() ? entry : null;
        }

        private int typeCount() {
            int types = 0;
            for (int i = 0; i < size; i++) {
                if (typeAt(i) != null) {
                    types++;
                }
            }
            return types;
        }

        private int commentCount() {
            int comments = 0;
            for (int i = 0; i < size; i++) {
                Entry entry = entryAt(i);
                if (entry != null && entry.commented) {
                    comments++;
                }
            }
            return comments;
        }

        private Entry typeNamed(Text text, int from, int to) {
            return memberOf(null, text, from, to);
        }

        /** The MEMBER of a TYPE with a NAME; of no owner, the TYPE with it. */
        private Entry memberOf(Entry owner, Text text, int from, int to) {
            for (int i = 0; i < size; i++) {
                Entry entry = entries[i];
                if (entry != null && entry.owner == owner && entry.name.isPart(text, from, to)) {
                    return entry;
                }
            }
            return null;
        }

        /** The MEMBER of a TYPE, or of the nearest of its PARENTS that has it. */
        private Entry memberFrom(Entry type, Text text, int from, int to) {
            Entry next = type;
            for (int steps = 0; steps < ENTRY_ROOM && next != null; steps++) {
                Entry member = memberOf(next, text, from, to);
                if (member != null) {
                    return member;
                }
                next = next.parent;
            }
            return null;
        }

        private Entry above(Entry entry) {
            if (entry.owner == null) {
                return null;
            }
            return memberFrom(entry.owner.parent, entry.name, 0, entry.name.size);
        }

        /** The ENTRY whose COMMENT counts for an ENTRY. */
        private Entry counting(Entry entry) {
            Entry next = entry;
            for (int steps = 0; steps < ENTRY_ROOM && next != null; steps++) {
                if (next.commented) {
                    return next;
                }
                next = above(next);
            }
            return null;
        }

        /** The ENTRY whose COMMENT stands for {inherit} in the COMMENT of an ENTRY. */
        private Entry inherited(Entry holder) {
            Entry above = above(holder);
            return above == null ? null : counting(above);
        }

        /** To what a part of a text that is a REFERENCE leads from an ENTRY. */
        private Entry find(Text text, int from, int to, Entry entry) {
            if (entry == null) {
                return null;
            }
            int dot = text.placeOf('.', from, to);
            if (dot < to) {
                return memberFrom(typeNamed(text, from, dot), text, dot + 1, to);
            }
            if (isWithin(text.byteAt(from), 'A', 'Z')) {
                return typeNamed(text, from, to);
            }
            return memberFrom(entry.nearestType(), text, from, to);
        }

        /** Looks up all LINKS of a BLOCK anew: ENTRIES may have come since. */
        private void resolveLinks(Comment comment, Block block) {
            block.leadsTo = null;
            if (block.isLink()) {
                block.leadsTo = find(comment.text, block.nameFrom, block.nameTo, comment.holder);
            }
            for (int i = 0; i < block.pieceCount; i++) {
                Piece piece = comment.pieceAt(block.firstPiece + i);
                if (piece != null && piece.sort == LINK) {
                    piece.leadsTo = find(comment.text, piece.nameFrom, piece.nameTo, comment.holder);
                }
            }
        }
    }

    private static final class Block {
        private Comment home;
        private int sort;
        private int place;
        private int depth;
        private int firstPiece;
        private int pieceCount;
        /** The NAME, REFERENCE or NUMBER of a TAG. */
        private int nameFrom;
        private int nameTo;
        /** An ITEM with an ITEM directly ahead. */
        private boolean close;
        private Entry leadsTo;

        private boolean isLink() {
            return sort == THROWS || sort == SEE;
        }

        private boolean hasNoPieces() {
            return sort == SEE || sort == SINCE;
        }
    }

    private static final class Piece {
        private int sort;
        private int place;
        private int shownFrom;
        private int shownTo;
        /** The REFERENCE of a LINK. */
        private int nameFrom;
        private int nameTo;
        private boolean glued;
        private Entry leadsTo;
    }

    private static final class Comment {
        private final Text text;
        /** One more than may be, so that the one too many is still read for FAULTS at its place. */
        private final Block[] blocks;
        private final Piece[] pieces;
        private int blockCount;
        private int pieceCount;
        private Entry holder;

        private Comment() {
            text = new Text(TAPE_ROOM);
            blocks = new Block[BLOCK_ROOM + 1];
            for (int i = 0; i < blocks.length; i++) {
                blocks[i] = new Block();
            }
            pieces = new Piece[PIECE_ROOM];
            for (int i = 0; i < pieces.length; i++) {
                pieces[i] = new Piece();
            }
        }

        private void begin(Text tape, Entry entry) {
            text.become(tape);
            holder = entry;
            blockCount = 0;
            pieceCount = 0;
        }

        private Block blockAt(int i) {
            return i < 0 || i >= blockCount ? null : blocks[i];
        }

        private Piece pieceAt(int i) {
            return i < 0 || i >= pieceCount ? null : pieces[i];
        }

        private Block addBlock(int sort, int place) {
            if (blockCount >= blocks.length) {
                return null;
            }
            Block added = blocks[blockCount];
            blockCount++;
            added.home = this;
            added.sort = sort;
            added.place = place;
            added.depth = 0;
            added.firstPiece = pieceCount;
            added.pieceCount = 0;
            added.nameFrom = 0;
            added.nameTo = 0;
            added.close = false;
            return added;
        }

        /** The next PIECE, a WORD over its bytes until it is told otherwise. */
        private Piece addPiece(int place, int to) {
            if (pieceCount >= pieces.length) {
                return null;
            }
            Piece added = pieces[pieceCount];
            pieceCount++;
            added.sort = WORD;
            added.place = place;
            added.shownFrom = place;
            added.shownTo = to;
            added.nameFrom = 0;
            added.nameTo = 0;
            added.glued = false;
            return added;
        }

        private Block blockOf(int sort) {
            for (int i = 0; i < blockCount; i++) {
                if (blocks[i].sort == sort) {
                    return blocks[i];
                }
            }
            return null;
        }

        private boolean hasParam(Text name) {
            for (int i = 0; i < blockCount; i++) {
                Block block = blocks[i];
                if (block.sort == PARAM && name.isPart(text, block.nameFrom, block.nameTo)) {
                    return true;
                }
            }
            return false;
        }
    }

    /** Reads a COMMENT by its LINES, up to the LINE of its FAULT. */
    private static final class Reader {
        private static final int EMPTY_LINE = 0;
        private static final int TAG_LINE = 1;
        private static final int ITEM_LINE = 2;
        private static final int TEXT_LINE = 3;

        /** The NAME of the @param that is read. */
        private final Text name;
        private Comment into;
        private Text text;
        /** The BLOCK that TEXT goes on with. */
        private Block open;
        private boolean behindEmpty;
        private int code;
        private int place;

        private Reader() {
            name = new Text(NAME_ROOM);
        }

        private void read(Comment comment) {
            into = comment;
            text = comment.text;
            open = null;
            behindEmpty = true;
            code = 0;
            place = 0;
            refuseOddByte();
            int from = 0;
            for (int lines = 0; lines < TAPE_ROOM && from < text.size && code == 0; lines++) {
                int to = text.placeOf('\n', from, text.size);
                int first = text.skipBlanks(from, to);
                int sort = lineSort(first, to);
                if (sort == TAG_LINE) {
                    readTag(first, to);
                } else if (sort == ITEM_LINE) {
                    readItem(first, to, first - from);
                } else if (sort == TEXT_LINE) {
                    readText(first, to);
                }
                behindEmpty = sort == EMPTY_LINE;
                from = to + 1;
            }
        }

        /** Of all FAULTS that are told, the first place stays, with its least code. */
        private void refuse(int where, int why) {
            if (code == 0 || where < place || where == place && why < code) {
                code = why;
                place = where;
            }
        }

        private void refuseOddByte() {
            for (int i = 0; i < text.size && code == 0; i++) {
                if (text.byteAt(i) != '\n' && !isWithin(text.byteAt(i), 32, 126)) {
                    refuse(i, ODD_BYTE);
                }
            }
        }

        private int lineSort(int first, int to) {
            if (first >= to) {
                return EMPTY_LINE;
            }
            if (text.byteAt(first) == '@') {
                return TAG_LINE;
            }
            boolean dash = text.byteAt(first) == '-' && (first + 1 == to || text.byteAt(first + 1) == ' ');
            return dash ? ITEM_LINE : TEXT_LINE;
        }

        private boolean isTagged() {
            return open != null && isTag(open.sort);
        }

        private void openBlock(int sort, int where) {
            open = into.addBlock(sort, where);
            if (open == null || into.blockCount > BLOCK_ROOM) {
                refuse(where, TOO_MANY);
            }
        }

        private void readItem(int first, int to, int blanks) {
            boolean close = open != null && open.sort == ITEM && !behindEmpty;
            int deepest = close ? Math.min(DEEPEST, open.depth + 1) : 0;
            if (isTagged()) {
                refuse(first, MISPLACED);
            }
            if ((blanks & 1) != 0 || blanks / 2 > deepest) {
                refuse(first, WRONG_DEPTH);
            }
            openBlock(ITEM, first);
            if (open != null) {
                open.depth = blanks / 2;
                open.close = close;
                readPieces(first + 1, to);
            }
        }

        private void readText(int first, int to) {
            boolean misplaced = behindEmpty ? isTagged() : open != null && open.hasNoPieces();
            if (misplaced) {
                refuse(first, MISPLACED);
                return;
            }
            boolean inherits = behindEmpty && isInheritAlone(first, to);
            if (inherits && into.blockOf(INHERIT) != null) {
                refuse(first, TWICE);
            }
            if (behindEmpty) {
                openBlock(inherits ? INHERIT : PARAGRAPH, first);
            }
            if (!inherits) {
                readPieces(first, to);
            }
        }

        /** Whether a PARAGRAPH that begins here is {inherit} where it may be: alone, and of a MEMBER. */
        private boolean isInheritAlone(int first, int to) {
            if (!text.hasWordAt(first, INHERIT_SIGN) || into.holder == null || into.holder.isType()) {
                return false;
            }
            if (text.skipBlanks(first + INHERIT_SIGN.length(), to) < to) {
                return false;
            }
            int nextTo = text.placeOf('\n', to + 1, text.size);
            int nextFirst = text.skipBlanks(to + 1, nextTo);
            return lineSort(nextFirst, nextTo) != TEXT_LINE;
        }

        private int tagSort(int from, int to) {
            for (int sort = PARAM; sort <= SINCE; sort++) {
                String word = tagWord(sort);
                if (word.length() == to - from && text.hasWordAt(from, word)) {
                    return sort;
                }
            }
            return NONE;
        }

        private void readTag(int first, int to) {
            int wordTo = text.placeOf(' ', first + 1, to);
            int sort = tagSort(first + 1, wordTo);
            if (sort == NONE) {
                refuse(first, MISPLACED);
                return;
            }
            if ((sort == RETURN || sort == SINCE) && into.blockOf(sort) != null) {
                refuse(first, TWICE);
            }
            openBlock(sort, first);
            int behind = sort == RETURN ? wordTo : readTagName(sort, wordTo, to);
            int rest = text.skipBlanks(behind, to);
            if (open == null || !open.hasNoPieces()) {
                readPieces(rest, to);
            } else if (rest < to) {
                refuse(rest, MISPLACED);
            }
        }

        /** The NAME, REFERENCE or NUMBER of the open TAG: where it ends. */
        private int readTagName(int sort, int wordTo, int lineTo) {
            int from = text.skipBlanks(wordTo, lineTo);
            int to = text.placeOf(' ', from, lineTo);
            boolean asTold;
            if (sort == PARAM) {
                asTold = text.isName(from, to);
            } else if (sort == SINCE) {
                asTold = text.isNumber(from, to);
            } else {
                asTold = text.isReference(from, to);
            }
            if (!asTold || open == null) {
                refuse(from, MISPLACED);
                return lineTo;
            }
            if (sort == PARAM && isParamTwice(from, to)) {
                refuse(open.place, TWICE);
            }
            open.nameFrom = from;
            open.nameTo = to;
            return to;
        }

        private boolean isParamTwice(int from, int to) {
            name.cut(0);
            name.addPart(text, from, to);
            return into.hasParam(name);
        }

        private void readPieces(int from, int to) {
            int next = text.skipBlanks(from, to);
            boolean glued = false;
            for (int steps = 0; steps < TAPE_ROOM && next < to; steps++) {
                Piece piece;
                if (text.hasWordAt(next, CODE_SIGN)) {
                    piece = readCode(next, to);
                } else if (text.hasWordAt(next, LINK_SIGN)) {
                    piece = readLink(next, to);
                } else {
                    piece = readWord(next, to);
                }
                if (piece == null || open == null) {
                    return;
                }
                piece.glued = glued;
                open.pieceCount++;
                int behind = piece.sort == WORD ? piece.shownTo : piece.shownTo + 1;
                next = text.skipBlanks(behind, to);
                glued = next == behind;
            }
        }

        private Piece readWord(int first, int to) {
            int wordTo = first;
            while (wordTo < to && !isWordEnd(text.byteAt(wordTo))) {
                wordTo++;
            }
            return addPiece(first, wordTo, wordTo > first);
        }

        private static boolean isWordEnd(int value) {
            return value == ' ' || value == '{' || value == '}';
        }

        /** The next PIECE of the open BLOCK; null with a FAULT. */
        private Piece addPiece(int first, int to, boolean asTold) {
            if (!asTold) {
                refuse(first, MISPLACED);
                return null;
            }
            Piece added = into.addPiece(first, to);
            if (added == null) {
                refuse(first, TOO_MANY);
            }
            return added;
        }

        private Piece readCode(int first, int to) {
            int from = first + CODE_SIGN.length();
            int pairs = 1;
            int i = from;
            while (i < to && pairs > 0) {
                if (text.byteAt(i) == '{') {
                    pairs++;
                } else if (text.byteAt(i) == '}') {
                    pairs--;
                }
                i++;
            }
            Piece added = addPiece(first, i - 1, pairs == 0 && isWithin(i - 1 - from, 1, SHOWN_ROOM));
            if (added != null) {
                added.sort = CODE;
                added.shownFrom = from;
            }
            return added;
        }

        private Piece readLink(int first, int to) {
            int from = first + LINK_SIGN.length();
            int close = text.placeOf('}', from, to);
            int nameTo = text.placeOf(' ', from, close);
            int label = text.skipBlanks(nameTo, close);
            boolean asTold = close < to && text.isReference(from, nameTo)
                    && (nameTo == close || isLabel(label, close));
            Piece added = addPiece(first, close, asTold);
            if (added != null) {
                added.sort = LINK;
                added.nameFrom = from;
                added.nameTo = nameTo;
                added.shownFrom = nameTo == close ? from : label;
            }
            return added;
        }

        private boolean isLabel(int from, int to) {
            return isWithin(to - from, 1, SHOWN_ROOM) && text.byteAt(to - 1) != ' '
                    && text.placeOf('{', from, to) == to;
        }
    }

    /** A laid out page: its bytes, where its LINES begin, and its TARGETS. */
    private static final class Page {
        private final Text text;
        private final int[] starts;
        private final Entry[] targets;
        private int lineCount;
        private int targetCount;
        private int badness;
        private int longest;
        private int openStart;
        private boolean full;

        private Page() {
            text = new Text(PAGE_ROOM);
            starts = new int[PAGE_ROOM];
            targets = new Entry[ENTRY_ROOM];
        }

        private void wipe() {
            text.cut(0);
            lineCount = 0;
            targetCount = 0;
            badness = 0;
            longest = 0;
            openStart = 0;
            full = false;
        }

        private void putByte(int value) {
            if (!text.addByte(value)) {
                full = true;
            }
        }

        private void putBlanks(int n) {
            for (int i = 0; i < n; i++) {
                putByte(' ');
            }
        }

        private void putPart(Text other, int from, int to) {
            for (int i = from; i < to; i++) {
                putByte(other.byteAt(i));
            }
        }

        private void putName(Entry entry) {
            if (entry.owner != null) {
                putPart(entry.owner.name, 0, entry.owner.name.size);
                putByte('.');
            }
            putPart(entry.name, 0, entry.name.size);
        }

        private void closeLine() {
            if (lineCount >= starts.length) {
                full = true;
                return;
            }
            starts[lineCount] = openStart;
            lineCount++;
            longest = Math.max(longest, text.size - openStart);
            putByte('\n');
            openStart = text.size;
        }

        private Entry targetAt(int k) {
            return k < 1 || k > targetCount ? null : targets[k - 1];
        }

        /** The number of a TARGET, from 1 on; 0 of nothing. */
        private int targetNumber(Entry target) {
            for (int i = 0; i < targetCount; i++) {
                if (targets[i] == target) {
                    return i + 1;
                }
            }
            if (target == null || targetCount >= targets.length) {
                return 0;
            }
            targets[targetCount] = target;
            targetCount++;
            return targetCount;
        }
    }

    /** Puts the BLOCKS of a PAGE in order, and each in its LINES. */
    private static final class Layout {
        private final Block[] planned;
        private int planSize;
        /** The CHUNKS of one BLOCK, one behind the other; chunk i begins at chunkFrom[i]. */
        private final Text shown;
        private final int[] chunkFrom;
        private int chunkCount;
        /** For a LINE that begins with chunk i: the chunk that the next one begins with. */
        private final int[] nextFrom;
        private final int[] least;
        private int width;
        private int firstIndent;
        private int otherIndent;

        private Layout() {
            planned = new Block[ENTRY_ROOM * BLOCK_ROOM];
            shown = new Text(2 * TAPE_ROOM);
            chunkFrom = new int[PIECE_ROOM + 2];
            nextFrom = new int[PIECE_ROOM + 2];
            least = new int[PIECE_ROOM + 2];
        }

        private void clearPlan() {
            planSize = 0;
        }

        /** All BLOCKS but TAGS of a COMMENT, those that {inherit} stands for in its place. */
        private void planStory(Register register, Entry holder, int depth) {
            if (holder == null || holder.comment == null || depth > ENTRY_ROOM) {
                return;
            }
            Comment comment = holder.comment;
            for (int i = 0; i < comment.blockCount; i++) {
                Block block = comment.blockAt(i);
                if (block != null && block.sort == INHERIT) {
                    planStory(register, register.inherited(holder), depth + 1);
                } else if (block != null && !isTag(block.sort)) {
                    planBlock(block);
                }
            }
        }

        private void planTags(Entry holder) {
            if (holder == null || holder.comment == null) {
                return;
            }
            Comment comment = holder.comment;
            for (int sort = PARAM; sort <= SINCE; sort++) {
                for (int i = 0; i < comment.blockCount; i++) {
                    Block block = comment.blockAt(i);
                    if (block != null && block.sort == sort) {
                        planBlock(block);
                    }
                }
            }
        }

        private void planBlock(Block block) {
            if (planSize < planned.length) {
                planned[planSize] = block;
                planSize++;
            }
        }

        private void resolvePlan(Register register) {
            for (int i = 0; i < planSize; i++) {
                Block block = planned[i];
                if (block != null && block.home != null) {
                    register.resolveLinks(block.home, block);
                }
            }
        }

        private void compose(Page page, Entry entry, int columns, int how) {
            width = columns;
            page.wipe();
            page.putName(entry);
            page.closeLine();
            Block ahead = null;
            for (int i = 0; i < planSize && !page.full; i++) {
                Block block = planned[i];
                if (block != null && block.home != null) {
                    if (isApart(ahead, block)) {
                        page.closeLine();
                    }
                    layOut(page, block, how);
                    ahead = block;
                }
            }
            putTargets(page);
        }

        /** Whether an empty LINE stands ahead of a BLOCK. */
        private static boolean isApart(Block ahead, Block block) {
            if (ahead == null) {
                return true;
            }
            return isTag(block.sort) ? !isTag(ahead.sort) : !block.close;
        }

        private void putTargets(Page page) {
            if (page.targetCount > 0) {
                page.closeLine();
            }
            for (int k = 1; k <= page.targetCount; k++) {
                Entry target = page.targetAt(k);
                if (target != null) {
                    shown.cut(0);
                    addMark(shown, k);
                    page.putPart(shown, 0, shown.size);
                    page.putByte(' ');
                    page.putName(target);
                    page.closeLine();
                }
            }
        }

        /** The "[k]" of a LINK; 0 is none. */
        private static void addMark(Text text, int k) {
            text.addByte('[');
            if (k >= 10) {
                text.addByte('0' + k / 10);
            }
            text.addByte(k > 0 ? '0' + k % 10 : '?');
            text.addByte(']');
        }

        private void layOut(Page page, Block block, int how) {
            cutInChunks(page, block);
            boolean item = block.sort == ITEM;
            int dash = 2 * block.depth;
            firstIndent = item ? dash + 2 : 0;
            otherIndent = isTag(block.sort) ? 4 : firstIndent;
            if (how == LEAST) {
                breakLeast();
            } else {
                breakFilled();
            }
            if (item) {
                page.putBlanks(dash);
                page.putByte('-');
            }
            if (item && chunkCount > 0) {
                page.putByte(' ');
            }
            putLines(page);
        }

        private void cutInChunks(Page page, Block block) {
            shown.cut(0);
            chunkCount = 0;
            Comment home = block.home;
            if (home == null) {
                return;
            }
            if (isTag(block.sort)) {
                cutTagHead(page, block, home.text);
            }
            for (int i = 0; i < block.pieceCount; i++) {
                Piece piece = home.pieceAt(block.firstPiece + i);
                if (piece == null) {
                    return;
                }
                if (!piece.glued) {
                    beginChunk();
                }
                shown.addPart(home.text, piece.shownFrom, piece.shownTo);
                if (piece.sort == LINK) {
                    addMark(shown, page.targetNumber(piece.leadsTo));
                }
                closeChunk();
            }
        }

        private void cutTagHead(Page page, Block block, Text text) {
            beginChunk();
            shown.addWord(tagWord(block.sort));
            if (block.sort != RETURN) {
                shown.addByte(' ');
                shown.addPart(text, block.nameFrom, block.nameTo);
            }
            if (block.isLink()) {
                addMark(shown, page.targetNumber(block.leadsTo));
            }
            closeChunk();
        }

        private void beginChunk() {
            if (chunkCount + 1 < chunkFrom.length) {
                chunkFrom[chunkCount] = shown.size;
                chunkCount++;
            }
        }

        private void closeChunk() {
            if (chunkCount < chunkFrom.length) {
                chunkFrom[chunkCount] = shown.size;
            }
        }

        /** The columns of a LINE of the chunks from i up to j, j not among them. */
        private int columns(int i, int j) {
            int indent = i == 0 ? firstIndent : otherIndent;
            return indent + chunkStart(j) - chunkStart(i) + j - i - 1;
        }

        private int chunkStart(int i) {
            return i < 0 || i > chunkCount ? shown.size : chunkFrom[i];
        }

        /** The chunk behind the last one that fits in a LINE that begins with chunk i. */
        private int fullest(int i) {
            int j = i + 1;
            while (j < chunkCount && columns(i, j + 1) <= width) {
                j++;
            }
            return j;
        }

        private int badness(int i, int j) {
            int left = j < chunkCount ? Math.max(0, width - columns(i, j)) : 0;
            return left * left;
        }

        private void breakFilled() {
            for (int i = 0; i < chunkCount; i++) {
                nextFrom[i] = fullest(i);
            }
        }

        private void breakLeast() {
            least[chunkCount] = 0;
            for (int i = chunkCount - 1; i >= 0; i--) {
                int last = fullest(i);
                nextFrom[i] = last;
                least[i] = badness(i, last) + least[last];
                for (int j = last - 1; j > i; j--) {
                    int sum = badness(i, j) + least[j];
                    // Only what is less: at a draw the LINE with more chunks stays.
                    if (sum < least[i]) {
                        nextFrom[i] = j;
                        least[i] = sum;
                    }
                }
            }
        }

        /** Writes the LINES of a BLOCK, the dash of an ITEM being there already. */
        private void putLines(Page page) {
            if (chunkCount == 0) {
                page.closeLine();
            }
            int from = 0;
            for (int lines = 0; lines < chunkFrom.length && from < chunkCount; lines++) {
                int to = nextFrom[from];
                if (from > 0) {
                    page.putBlanks(otherIndent);
                }
                page.putPart(shown, chunkStart(from), chunkStart(from + 1));
                for (int i = from + 1; i < to; i++) {
                    page.putByte(' ');
                    page.putPart(shown, chunkStart(i), chunkStart(i + 1));
                }
                page.closeLine();
                page.badness += badness(from, to);
                from = to;
            }
        }
    }

    /** The NOTES of an ENTRY. */
    private static final class Notes {
        private static final int UNTOLD = 1;
        private static final int DEAD_LINK = 2;
        private static final int DEAD_INHERIT = 3;
        private static final int STRANGE_PARAM = 4;
        private static final int STRANGE_RETURN = 5;
        private static final int UNTOLD_PARAMETER = 6;
        private static final int UNTOLD_RETURN = 7;

        private final int[] sorts;
        private final int[] numbers;
        private int size;

        private Notes() {
            sorts = new int[PIECE_ROOM + 4 * BLOCK_ROOM];
            numbers = new int[PIECE_ROOM + 4 * BLOCK_ROOM];
        }

        private void addNote(int sort, int number) {
            if (size < sorts.length && size < numbers.length) {
                sorts[size] = sort;
                numbers[size] = number;
                size++;
            }
        }

        private void gather(Register register, Entry entry) {
            size = 0;
            if (register.counting(entry) == null) {
                addNote(UNTOLD, 0);
            }
            Comment own = entry.ownComment();
            if (own != null) {
                noteDeadLinks(register, own);
                noteInherit(own, register.inherited(entry));
                noteParams(entry, own);
                noteReturn(entry, own);
            }
            noteUntold(register, entry);
        }

        private void noteDeadLinks(Register register, Comment own) {
            for (int i = 0; i < own.blockCount; i++) {
                Block block = own.blockAt(i);
                if (block != null) {
                    register.resolveLinks(own, block);
                    noteDeadLinksOf(own, block);
                }
            }
        }

        private void noteDeadLinksOf(Comment own, Block block) {
            if (block.isLink() && block.leadsTo == null) {
                addNote(DEAD_LINK, block.place);
            }
            for (int i = 0; i < block.pieceCount; i++) {
                Piece piece = own.pieceAt(block.firstPiece + i);
                if (piece != null && piece.sort == LINK && piece.leadsTo == null) {
                    addNote(DEAD_LINK, piece.place);
                }
            }
        }

        private void noteInherit(Comment own, Entry inherited) {
            Block inherit = own.blockOf(INHERIT);
            if (inherit != null && inherited == null) {
                addNote(DEAD_INHERIT, inherit.place);
            }
        }

        private void noteParams(Entry entry, Comment own) {
            for (int i = 0; i < own.blockCount; i++) {
                Block block = own.blockAt(i);
                if (block != null && block.sort == PARAM
                        && !entry.hasParameter(own.text, block.nameFrom, block.nameTo)) {
                    addNote(STRANGE_PARAM, block.place);
                }
            }
        }

        private void noteReturn(Entry entry, Comment own) {
            Block told = own.blockOf(RETURN);
            if (told != null && !entry.returns) {
                addNote(STRANGE_RETURN, told.place);
            }
        }

        private void noteUntold(Register register, Entry entry) {
            for (int i = 0; i < entry.parameterCount; i++) {
                Text name = entry.parameterAt(i);
                if (name != null && !isToldFrom(register, entry, name)) {
                    addNote(UNTOLD_PARAMETER, i);
                }
            }
            if (entry.returns && !isToldFrom(register, entry, null)) {
                addNote(UNTOLD_RETURN, 0);
            }
        }

        /** Whether a COMMENT of an ENTRY, or of one ABOVE it, has the @param of a NAME; of null, @return. */
        private static boolean isToldFrom(Register register, Entry entry, Text name) {
            Entry next = entry;
            for (int steps = 0; steps < ENTRY_ROOM && next != null; steps++) {
                Comment own = next.ownComment();
                if (own != null && (name == null ? own.blockOf(RETURN) != null : own.hasParam(name))) {
                    return true;
                }
                next = register.above(next);
            }
            return false;
        }
    }
}
