/** Promises 7, 9, 11 and 12: comment, bare, block, piece, of texts without a fault. */
public final class CommentTest {
    private static final int SORT = 0;
    private static final int DEPTH = 1;
    private static final int PIECES = 2;
    private static final int PLACE = 3;

    public static void main(String[] args) {
        blocks();
        paragraphs();
        items();
        tags();
        inherit();
        words();
        codes();
        links();
        limits();
        keepsOld();
        bare();
        bad();
        Desk.finish();
    }

    /** An object with the type A (0), its member m (1), and the comment of m. */
    private static Desk with(String text, int blocks) {
        Desk d = new Desk();
        d.type("A", -1);
        d.member("m", 0, true);
        Desk.due("comment '" + text + "'", d.comment(1, text), blocks);
        Desk.due("fault of '" + text + "'", d.x.fault(), 0);
        return d;
    }

    private static void row(String text, int what, int... want) {
        Desk d = with(text, want.length);
        for (int i = 0; i < want.length; i++) {
            Desk.due("block " + i + " " + what + " of '" + text + "'", d.x.block(1, i, what), want[i]);
        }
        Desk.due("block behind", d.x.block(1, want.length, what), -9);
    }

    private static void pieceRow(String text, int what, int... want) {
        Desk d = new Desk();
        d.type("A", -1);
        d.member("m", 0, true);
        d.comment(1, text);
        Desk.due("pieces of '" + text + "'", d.x.told(1, 7), want.length);
        for (int i = 0; i < want.length; i++) {
            Desk.due("piece " + i + " " + what + " of '" + text + "'", d.x.piece(1, i, what), want[i]);
        }
        Desk.due("piece behind", d.x.piece(1, want.length, what), -9);
    }

    private static void blocks() {
        String all = "Some text\nof two lines.\n\n{inherit}\n- item\n  goes on\n  - deep\n"
                + "@param a b\n@return it\n@throws A\n@see m\n@since 1";
        row(all, SORT, 0, 7, 1, 1, 2, 3, 4, 5, 6);
        row(all, DEPTH, 0, 0, 0, 1, 0, 0, 0, 0, 0);
        row(all, PIECES, 5, 0, 3, 1, 1, 1, 0, 0, 0);
        row(all, PLACE, 0, 25, 35, 54, 61, 72, 83, 93, 100);
    }

    private static void paragraphs() {
        row("", SORT);
        row("   ", SORT);
        row("\n\n \n", SORT);
        row("a\nb\n  c", SORT, 0);
        row("a\n\nb\n \nc\n", SORT, 0, 0, 0);
        row("a\n\n  b", PLACE, 0, 5);
        row("\n\n  a", PLACE, 4);
        row("- a\n\nb", SORT, 1, 0);
        row("-a\n--\n-- b", SORT, 0);
        row("a - b @see x", PIECES, 5);
    }

    private static void items() {
        row("-", SORT, 1);
        row("-\n- \n-  x", SORT, 1, 1, 1);
        row("-\n- \n-  x", PIECES, 0, 0, 1);
        row("a\n- b", SORT, 0, 1);
        row("- a\n  - b\n    - c\n- d\n  - e\n  - f", DEPTH, 0, 1, 2, 0, 1, 1);
        row("- a\n more\n  - b\n    - c", DEPTH, 0, 1, 2);
        row("- a\n  - b\n\n- c", DEPTH, 0, 1, 0);
        row("- a\n  - b", PLACE, 0, 6);
    }

    private static void tags() {
        row("@return", SORT, 3);
        row("  @return  x y\n z", PIECES, 3);
        row("  @return  x", PLACE, 2);
        row("@param A9\n@param a9 \n@param a", SORT, 2, 2, 2);
        row("@param   a   b\nc\n\n\n@see A", PIECES, 2, 0);
        row("@throws x.Y z\n@throws x.Y z", SORT, 4, 4);
        row("@see a\n@see a\n@since 0", SORT, 5, 5, 6);
        row("@since 9999", SORT, 6);
        row("@return @see -", PIECES, 2);
    }

    private static void inherit() {
        row("{inherit}", SORT, 7);
        row("  {inherit}  ", SORT, 7);
        row("  {inherit}  ", PLACE, 2);
        row("a\n\n{inherit}\n\nb", SORT, 0, 7, 0);
        row("{inherit}\n- a", SORT, 7, 1);
        row("{inherit}\n@return", SORT, 7, 3);
        row("{inherit}\n\n- a", PIECES, 0, 1);
    }

    private static void words() {
        pieceRow("ab  c\n  def", 0, 0, 0, 0);
        pieceRow("ab  c\n  def", 1, 0, 4, 8);
        pieceRow("ab  c\n  def", 2, 2, 1, 3);
        pieceRow("ab  c\n  def", 3, 0, 0, 0);
        pieceRow("ab  c\n  def", 4, -1, -1, -1);
        pieceRow("ab  c\n  def", 5, -9, -9, -9);
        pieceRow("ab", -1, -9);
        pieceRow("- ab\n@see m\n@throws A b", 1, 2, 22);
    }

    private static void codes() {
        pieceRow("a{code x}b {code y}{code z}", 0, 0, 1, 0, 1, 1);
        pieceRow("a{code x}b {code y}{code z}", 1, 0, 1, 9, 11, 19);
        pieceRow("a{code x}b {code y}{code z}", 3, 0, 1, 1, 0, 1);
        pieceRow("{code {}}", 2, 2);
        pieceRow("{code {a}{b {c}}} x", 2, 10, 1);
        pieceRow("{code  }", 2, 1);
        pieceRow("{code  a b }", 2, 5);
        pieceRow("{code " + "x".repeat(60) + "}", 2, 60);
        pieceRow("{code {link A}}", 0, 1);
        pieceRow("{code A}", 4, -1);
        pieceRow("{code a}\n{code b}", 3, 0, 0);
    }

    private static void links() {
        pieceRow("{link A}", 0, 2);
        pieceRow("{link A}", 2, 1);
        pieceRow("{link A}", 4, 0);
        pieceRow("{link A.m}", 2, 3);
        pieceRow("{link A.m}", 4, 1);
        pieceRow("{link m  the   way}", 2, 9);
        pieceRow("{link m x}", 4, 1);
        pieceRow("{link Gone}", 4, -1);
        pieceRow("{link a.B}", 4, -1);
        pieceRow("{link A " + "y".repeat(60) + "}", 2, 60);
        pieceRow("x{link A}{link m}.", 3, 0, 1, 1, 1);
        pieceRow("{link Abcdefghij.abcdefghij}", 2, 21);

        Desk d = with("{link B}", 1);
        d.type("B", -1);
        Desk.due("leads to what has come since", d.x.piece(1, 0, 4), 2);
    }

    private static void limits() {
        with("-\n".repeat(24), 24);
        with("@see A\n".repeat(24), 24);
        Desk d = with("x ".repeat(120), 1);
        Desk.due("pieces", d.x.told(1, 7), 120);
        Desk.due("last piece", d.x.piece(1, 119, 1), 238);
        with("x".repeat(600), 1);
        with("\n".repeat(600), 0);
    }

    private static void keepsOld() {
        Desk d = with("- one\n- two", 2);
        Desk.due("with a fault", d.comment(1, "three }"), -16);
        Desk.due("blocks of the old one", d.x.told(1, 6), 2);
        Desk.due("sort in the old one", d.x.block(1, 1, 0), 1);
        Desk.due("place in the old one", d.x.piece(1, 1, 1), 8);
        Desk.due("tape", d.x.count(2), 0);
        Desk.due("new one", d.comment(1, "three"), 1);
        Desk.due("tape", d.x.count(2), 0);
        Desk.due("its blocks", d.x.told(1, 6), 1);
        Desk.due("of another entry", d.comment(0, "- a\n- b\n- c"), 3);
        Desk.due("blocks stay apart", d.x.told(1, 6), 1);
        Desk.due("comments", d.x.count(3), 2);
    }

    private static void bare() {
        Desk d = with("a\n\nb", 2);
        Desk.due("bare", d.x.bare(1), 2);
        Desk.due("bare again", d.x.bare(1), DocFormat.STATE);
        Desk.due("bare without comment", d.x.bare(0), DocFormat.STATE);
        Desk.due("bare 2", d.x.bare(2), DocFormat.BAD);
        Desk.due("bare -1", d.x.bare(-1), DocFormat.BAD);
        Desk.due("blocks", d.x.told(1, 6), 0);
        Desk.due("pieces", d.x.told(1, 7), 0);
        Desk.due("block", d.x.block(1, 0, 0), -9);
        Desk.due("piece", d.x.piece(1, 0, 0), -9);
        d.comment(1, "");
        Desk.due("comments", d.x.count(3), 1);
        Desk.due("bare of an empty one", d.x.bare(1), 0);
        d.comment(1, "}");
        Desk.due("still bare", d.x.bare(1), DocFormat.STATE);
        Desk.due("read again", d.comment(1, "- x"), 1);
        Desk.due("bare of it", d.x.bare(1), 1);
    }

    private static void bad() {
        Desk d = with("x", 1);
        d.comment(1, "}");
        Desk.due("no entry", d.comment(2, "fine"), DocFormat.BAD);
        Desk.due("tape", d.x.count(2), 0);
        Desk.due("fault of the one that was not BAD", d.x.fault(), 2);
        Desk.due("no entry", d.comment(-1, "fine"), DocFormat.BAD);
        int[] wrong = {-1, 2, Integer.MIN_VALUE, Integer.MAX_VALUE};
        for (int i : wrong) {
            Desk.due("block of entry " + i, d.x.block(i, 0, 0), -9);
            Desk.due("piece of entry " + i, d.x.piece(i, 0, 0), -9);
            Desk.due("block " + i, d.x.block(1, i, 0), -9);
            Desk.due("piece " + i, d.x.piece(1, i, 0), -9);
        }
        Desk.due("block what 4", d.x.block(1, 0, 4), -9);
        Desk.due("block what -1", d.x.block(1, 0, -1), -9);
        Desk.due("piece what 5", d.x.piece(1, 0, 5), -9);
        Desk.due("block of none", d.x.block(0, 0, 0), -9);
    }
}
