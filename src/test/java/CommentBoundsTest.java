/** The bounds of the calls that read and tell COMMENTS, a sentence each: promises 7, 8, 9, 11 and 12. */
public final class CommentBoundsTest {
    private static final int BAD = DocFormat.BAD;
    private static final int[] FAR = {Integer.MIN_VALUE, -10, -9, -2, 40, 600, Integer.MAX_VALUE};

    public static void main(String[] args) {
        emptyTape();
        fullTape();
        howManyBlocks();
        placesOfFaults();
        faultKeepsComment();
        faultKeepsNone();
        becomesTheTape();
        nothingIsLeft();
        tapeIsEmptyInAnyCase();
        commentIsBad();
        latestFault();
        faultOfNone();
        bareTellsBlocks();
        bareIsState();
        bareIsBad();
        ownCommentAlone();
        blockTold();
        blockIsBad();
        pieceTold();
        pieceIsBad();
        Desk.finish();
    }

    private static void emptyTape() {
        Desk.sentence("The COMMENT of an ENTRY becomes THE TAPE: of nothing too");
        Desk d = Desk.small();
        Desk.due("blocks", d.x.comment(1), 0);
        Desk.due("fault", d.x.fault(), 0);
        Desk.due("comments", d.x.count(3), 1);
        Desk.due("counts", d.x.told(1, 5), 1);
        Desk.due("blocks told", d.x.told(1, 6), 0);
        Desk.due("pieces told", d.x.told(1, 7), 0);
        Desk.due("bare", d.x.bare(1), 0);
    }

    private static void fullTape() {
        Desk.sentence("The COMMENT of an ENTRY becomes THE TAPE: of 600 bytes too");
        Desk d = Desk.small();
        Desk.due("one word", d.comment(1, "x".repeat(600)), 1);
        Desk.due("its bytes", d.x.piece(1, 0, 2), 600);
        Desk.due("a word at the end", d.comment(1, " ".repeat(599) + "x"), 1);
        Desk.due("its place", d.x.piece(1, 0, 1), 599);
        Desk.due("lines", d.comment(1, "\n".repeat(600)), 0);
    }

    private static void howManyBlocks() {
        Desk.sentence("comment: how many BLOCKS it has");
        Desk d = Desk.small();
        for (int n = 0; n <= 24; n++) {
            Desk.due("items", d.comment(1, "-\n".repeat(n)), n);
            Desk.due("told", d.x.told(1, 6), n);
            Desk.due("the last", d.x.block(1, n - 1, 0), n == 0 ? -9 : 1);
            Desk.due("behind the last", d.x.block(1, n, 0), -9);
        }
    }

    private static void placesOfFaults() {
        Desk.sentence("-10 less the place of its FAULT");
        Desk d = Desk.small();
        for (int place : new int[] {0, 1, 2, 300, 598, 599}) {
            Desk.due("fault 2 at " + place, d.comment(1, " ".repeat(place) + "}"), -10 - place);
            Desk.due("fault 1 at " + place, d.comment(1, " ".repeat(place) + "\t"), -10 - place);
        }
        Desk.due("at the end of a full tape", d.comment(1, "\n".repeat(596) + "@see"), -610);
    }

    private static void faultKeepsComment() {
        Desk.sentence("then the COMMENT stays what it was");
        Desk d = Desk.small();
        d.comment(1, "one {link A two} {code three}{link m}\n- four\n  - five\n@param six seven\n@return eight");
        d.x.page(1, 20, 1);
        d.x.notes(1);
        String[] wrong = {"\t", "}", " - x", "-\n".repeat(25), "x ".repeat(121), "@return\n@return", "a b c d }",
            "- z\n  - y\n@param a {code x} } "};
        for (String text : wrong) {
            d.comment(1, "}");
            d.tape(text);
            String before = d.state();
            Desk.due("fault of '" + text + "'", d.x.comment(1) <= -10, true);
            Desk.due("tape", d.x.count(2), 0);
            Desk.due("state", d.state().replaceFirst("fault .", ""), before.replaceFirst("fault .", ""));
        }
        Desk.due("page anew", d.page(1, 60, 0),
                "A.m\n\none two[1] threem[2]\n\n- four\n  - five\n\nparam six seven\nreturn eight\n\n[1] A\n[2] A.m\n");
    }

    private static void faultKeepsNone() {
        Desk.sentence("then the COMMENT stays what it was: none");
        Desk d = Desk.small();
        d.comment(1, "}");
        Desk.due("comments", d.x.count(3), 0);
        Desk.due("counts", d.x.told(1, 5), -1);
        Desk.due("bare", d.x.bare(1), DocFormat.STATE);
        d.comment(1, "- x\n- y");
        d.x.bare(1);
        d.comment(1, "z }");
        Desk.due("blocks", d.x.told(1, 6), 0);
        Desk.due("pieces", d.x.told(1, 7), 0);
        Desk.due("block", d.x.block(1, 0, 0), -9);
        Desk.due("piece", d.x.piece(1, 0, 0), -9);
        Desk.due("page", d.page(1, 12, 0), "A.m\n");
    }

    private static void becomesTheTape() {
        Desk.sentence("The COMMENT of an ENTRY becomes THE TAPE: the old one is gone");
        Desk d = Desk.small();
        d.comment(1, "- a {code b}\n- c\n@param d\n@return\n@since 1");
        Desk.due("less", d.comment(1, "x"), 1);
        Desk.due("pieces", d.x.told(1, 7), 1);
        Desk.due("sort", d.x.block(1, 0, 0), 0);
        Desk.due("no second block", d.x.block(1, 1, 0), -9);
        Desk.due("no second piece", d.x.piece(1, 1, 0), -9);
        Desk.due("page", d.page(1, 12, 0), "A.m\n\nx\n");
        Desk.due("a @return is not there already", d.comment(1, "@param d\n@return\n@since 1"), 3);
        Desk.due("nothing", d.comment(1, ""), 0);
        Desk.due("comments", d.x.count(3), 1);
        d.comment(0, "of the type");
        Desk.due("of another entry", d.x.told(1, 6), 0);
    }

    /** More than once, since what is left may be that of the one before, or of any before that. */
    private static void nothingIsLeft() {
        Desk.sentence("The COMMENT of an ENTRY becomes THE TAPE: nothing is left of any before it");
        Desk d = Desk.small();
        d.comment(1, "-\n  - {link A}{code x}{link m}\n  -\n@param a\n@see A");
        for (int n = 0; n < 3; n++) {
            d.comment(1, "a b\n\nc\n\nd\n\n- e");
            for (int i = 0; i < 4; i++) {
                Desk.due("sort of block " + i, d.x.block(1, i, 0), i < 3 ? 0 : 1);
                Desk.due("depth of block " + i, d.x.block(1, i, 1), 0);
                Desk.due("pieces of block " + i, d.x.block(1, i, 2), i == 0 ? 2 : 1);
            }
            for (int i = 0; i < 5; i++) {
                Desk.due("sort of piece " + i, d.x.piece(1, i, 0), 0);
                Desk.due("bytes of piece " + i, d.x.piece(1, i, 2), 1);
                Desk.due("piece " + i + " is not glued", d.x.piece(1, i, 3), 0);
                Desk.due("piece " + i + " leads nowhere", d.x.piece(1, i, 4), -1);
            }
            Desk.due("page", d.page(1, 12, 0), "A.m\n\na b\n\nc\n\nd\n\n- e\n");
            Desk.due("notes", d.notes(1), "7:0");
        }
    }

    private static void tapeIsEmptyInAnyCase() {
        Desk.sentence("comment: THE TAPE (which is empty then in any case)");
        for (int entry : new int[] {0, 1, 2, -1, 40, Integer.MAX_VALUE}) {
            for (String text : new String[] {"", "x", "}", "\t", "-\n".repeat(25), "x".repeat(600)}) {
                Desk d = Desk.small();
                d.comment(entry, text);
                Desk.due("tape", d.x.count(2), 0);
                Desk.due("twenty behind nothing", d.x.feed(0, 0, 0, 0, 0), 20);
            }
        }
    }

    private static void commentIsBad() {
        Desk.sentence("comment: BAD");
        Desk d = Desk.small();
        d.comment(1, "x");
        d.comment(1, "}");
        for (int entry : new int[] {-1, 2, 3, 39, 40, Integer.MIN_VALUE, Integer.MAX_VALUE}) {
            for (String text : new String[] {"", "fine", "\t", "-\n".repeat(25)}) {
                d.tape(text);
                d.refused("comment of " + entry, BAD, 0, () -> d.x.comment(entry));
            }
        }
        Desk none = new Desk();
        Desk.due("without entries", none.comment(0, "x"), BAD);
    }

    private static void latestFault() {
        Desk.sentence("The code of the FAULT of the latest comment() that was not BAD");
        Desk d = Desk.small();
        String[] wrong = {"\t", "}", " -", "-\n".repeat(25), "@return\n@return"};
        for (int code = 1; code <= 5; code++) {
            d.comment(1, wrong[code - 1]);
            Desk.due("fault", d.x.fault(), code);
            Desk.due("fault asked again", d.x.fault(), code);
            Desk.due("no such entry", d.comment(2, wrong[5 - code]), BAD);
            Desk.due("fault behind a BAD one", d.x.fault(), code);
            Desk.due("no such entry", d.comment(-1, "fine"), BAD);
            Desk.due("fault behind a BAD one", d.x.fault(), code);
            d.x.bare(1);
            d.x.page(1, 20, 0);
            d.x.notes(1);
            d.leads(1, "m");
            Desk.due("fault behind other calls", d.x.fault(), code);
            d.comment(0, "fine");
            Desk.due("fault of one without", d.x.fault(), 0);
        }
    }

    private static void faultOfNone() {
        Desk.sentence("fault: 0");
        Desk d = Desk.small();
        Desk.due("without a comment", d.x.fault(), 0);
        d.comment(2, "}");
        Desk.due("behind a BAD one", d.x.fault(), 0);
        d.comment(1, "");
        Desk.due("of an empty one", d.x.fault(), 0);
    }

    private static void bareTellsBlocks() {
        Desk.sentence("An ENTRY has no COMMENT: how many BLOCKS that had");
        Desk d = Desk.small();
        for (int n : new int[] {0, 1, 2, 23, 24}) {
            d.comment(1, "-\n".repeat(n));
            Desk.due("bare", d.x.bare(1), n);
            Desk.due("blocks", d.x.told(1, 6), 0);
            Desk.due("pieces", d.x.told(1, 7), 0);
            Desk.due("counts", d.x.told(1, 5), -1);
            Desk.due("comments", d.x.count(3), 0);
            Desk.due("block", d.x.block(1, 0, 0), -9);
        }
        d.comment(0, "x");
        d.comment(1, "x");
        d.x.bare(0);
        Desk.due("the other stays", d.x.told(1, 6), 1);
    }

    private static void bareIsState() {
        Desk.sentence("STATE: there was none");
        Desk d = Desk.small();
        d.refused("of a new type", DocFormat.STATE, 0, () -> d.x.bare(0));
        d.refused("of a new member", DocFormat.STATE, 0, () -> d.x.bare(1));
        d.comment(1, "x");
        d.x.bare(1);
        d.refused("a second time", DocFormat.STATE, 0, () -> d.x.bare(1));
        d.comment(1, "}");
        d.refused("behind a fault", DocFormat.STATE, 0, () -> d.x.bare(1));
        d.type("B", 0);
        d.member("m", 2, false);
        d.comment(1, "x");
        d.refused("of one that takes over", DocFormat.STATE, 0, () -> d.x.bare(3));
        Desk.due("which is still there", d.x.bare(1), 1);
    }

    private static void bareIsBad() {
        Desk.sentence("bare: BAD, ahead of STATE");
        Desk d = Desk.small();
        d.comment(1, "x");
        for (int entry : FAR) {
            d.refused("bare " + entry, BAD, 0, () -> d.x.bare(entry));
        }
        d.refused("bare -1", BAD, 0, () -> d.x.bare(-1));
        d.refused("bare 2", BAD, 0, () -> d.x.bare(2));
    }

    private static void ownCommentAlone() {
        Desk.sentence("6 BLOCKS, 7 PIECES of its own COMMENT (0); BLOCK i, PIECE i of the own COMMENT");
        Desk d = Desk.small();
        d.type("B", 0);
        d.member("m", 2, false);
        d.comment(1, "x y\n- z");
        Desk.due("counts", d.x.told(3, 5), 1);
        Desk.due("blocks", d.x.told(3, 6), 0);
        Desk.due("pieces", d.x.told(3, 7), 0);
        Desk.due("block", d.x.block(3, 0, 0), -9);
        Desk.due("piece", d.x.piece(3, 0, 0), -9);
        d.comment(3, "{inherit}");
        Desk.due("one block", d.x.told(3, 6), 1);
        Desk.due("no pieces", d.x.told(3, 7), 0);
        Desk.due("own blocks", d.x.told(1, 6), 2);
        Desk.due("own pieces", d.x.told(1, 7), 3);
    }

    private static void blockTold() {
        Desk.sentence("0 its sort, 1 DEPTH (of others 0), 2 how many PIECES, 3 the place of its first byte (of an ITEM the \"-\")");
        Desk d = Desk.small();
        d.comment(1, " a b\n- c\n  -\n    - d\ne\n\n {inherit}\n @param f g\n@return\n@throws A h\n  @see A\n@since 1");
        int[][] want = {{0, 0, 2, 1}, {1, 0, 1, 5}, {1, 1, 0, 11}, {1, 2, 2, 17}, {7, 0, 0, 25}, {2, 0, 1, 36},
            {3, 0, 0, 47}, {4, 0, 1, 55}, {5, 0, 0, 69}, {6, 0, 0, 76}};
        for (int i = 0; i < want.length; i++) {
            for (int what = 0; what < 4; what++) {
                Desk.due("block " + i + " " + what, d.x.block(1, i, what), want[i][what]);
            }
        }
    }

    private static void blockIsBad() {
        Desk.sentence("block: BAD -9");
        Desk d = Desk.small();
        d.comment(1, "- x\n- y");
        for (int what = 0; what < 4; what++) {
            Desk.due("the last", d.x.block(1, 1, what) >= 0, true);
            int asked = what;
            d.refused("block 2", -9, 0, () -> d.x.block(1, 2, asked));
            d.refused("block -1", -9, 0, () -> d.x.block(1, -1, asked));
            d.refused("entry without comment", -9, 0, () -> d.x.block(0, 0, asked));
            d.refused("entry 2", -9, 0, () -> d.x.block(2, 0, asked));
            d.refused("entry -1", -9, 0, () -> d.x.block(-1, 0, asked));
        }
        d.refused("what 4", -9, 0, () -> d.x.block(1, 0, 4));
        d.refused("what -1", -9, 0, () -> d.x.block(1, 0, -1));
        for (int far : FAR) {
            Desk.due("entry " + far, d.x.block(far, 0, 0), -9);
            Desk.due("block " + far, d.x.block(1, far, 0), -9);
            Desk.due("what " + far, d.x.block(1, 0, far), -9);
        }
    }

    private static void pieceTold() {
        Desk.sentence("0 its sort, 1 its place, 2 how many bytes are SHOWN of it without \"[..]\", 3 whether it is GLUED");
        Desk d = Desk.small();
        d.comment(1, "a {code {b}}{link A} {link m  c d}{link Gone}.");
        int[][] want = {{0, 0, 1, 0, -1}, {1, 2, 3, 0, -1}, {2, 12, 1, 1, 0}, {2, 21, 3, 0, 1}, {2, 34, 4, 1, -1},
            {0, 45, 1, 1, -1}};
        for (int i = 0; i < want.length; i++) {
            for (int what = 0; what < 5; what++) {
                Desk.due("piece " + i + " " + what, d.x.piece(1, i, what), want[i][what]);
            }
        }
        d.comment(1, "x ".repeat(120));
        Desk.due("place of the last", d.x.piece(1, 119, 1), 238);
    }

    private static void pieceIsBad() {
        Desk.sentence("piece: BAD -9");
        Desk d = Desk.small();
        d.comment(1, "- x\n- {link A}");
        for (int what = 0; what < 5; what++) {
            Desk.due("the last", d.x.piece(1, 1, what) >= 0, true);
            int asked = what;
            d.refused("piece 2", -9, 0, () -> d.x.piece(1, 2, asked));
            d.refused("piece -1", -9, 0, () -> d.x.piece(1, -1, asked));
            d.refused("entry without comment", -9, 0, () -> d.x.piece(0, 0, asked));
            d.refused("entry 2", -9, 0, () -> d.x.piece(2, 0, asked));
            d.refused("entry -1", -9, 0, () -> d.x.piece(-1, 0, asked));
        }
        d.refused("what 5", -9, 0, () -> d.x.piece(1, 0, 5));
        d.refused("what 5 of a link", -9, 0, () -> d.x.piece(1, 1, 5));
        d.refused("what -1", -9, 0, () -> d.x.piece(1, 0, -1));
        for (int far : FAR) {
            Desk.due("entry " + far, d.x.piece(far, 0, 0), -9);
            Desk.due("piece " + far, d.x.piece(1, far, 0), -9);
            Desk.due("what " + far, d.x.piece(1, 0, far), -9);
        }
        d.comment(1, "x ".repeat(120));
        Desk.due("the 121st", d.x.piece(1, 120, 0), -9);
    }
}
