import java.util.ArrayList;
import java.util.List;

/** The bounds of PAGES (part 3 of the Terms), a sentence each: promises 14 to 18. */
public final class PageBoundsTest {
    private static final int BAD = DocFormat.BAD;
    private static final int NONE = DocFormat.NONE;
    private static final int[] FAR = {Integer.MIN_VALUE, -4000, -10, -2, 61, 4000, Integer.MAX_VALUE};

    public static void main(String[] args) {
        nameOfAnEntry();
        partsWithLines();
        betweenBlocks();
        betweenBlocksOfTwoComments();
        orderOfTags();
        tagsOfTheCommentThatCounts();
        inheritReplaced();
        inheritOfNothing();
        inheritOverAllLevels();
        linesOfWidth();
        itemColumns();
        tagColumns();
        tagHeads();
        gluedIsOneChunk();
        codeIsItsBytes();
        linkIsLabel();
        targetsFrom1();
        targetsInOrderOfThePage();
        fortyTargets();
        leadsToNothing();
        leadsFromItsEntry();
        blockWithoutChunks();
        mostChunks();
        filledTakesOne();
        leastOfAll();
        leastAmongAllWays();
        leastNotItsLast();
        leastTooLong();
        leastOfSeveral();
        entryIsBad();
        widthIsBad();
        howIsBad();
        upTo4000();
        fullByTargets();
        fullChangesNothing();
        badAheadOfFull();
        aboutAtFirst();
        aboutSums();
        aboutLongest();
        aboutIsBad();
        bytes();
        lines();
        targets();
        pageBecomesThatOfAnEntry();
        Desk.finish();
    }

    /** A (0) with m (1), B below it (2) with m (3), C below that (4) with m (5). */
    private static Desk three() {
        Desk d = new Desk();
        for (int i = 0; i < 3; i++) {
            d.type("" + (char) ('A' + i), i == 0 ? NONE : 2 * i - 2);
            d.member("m", 2 * i, true);
        }
        return d;
    }

    private static void due(Desk d, int entry, int width, int how, String... lines) {
        String want = String.join("\n", lines) + "\n";
        int answer = d.x.page(entry, width, how);
        Desk.due("page " + entry + " " + width + " " + how, answer + "\n" + d.page(), lines.length + "\n" + want);
        Desk.due("lines", d.x.about(0), lines.length);
        Desk.due("bytes", d.x.about(1), want.length());
    }

    private static void due(String text, int width, int how, String... lines) {
        Desk d = three();
        Desk.due("comment '" + text + "'", d.comment(1, text) >= 0, true);
        due(d, 1, width, how, lines);
    }

    private static void badness(String text, int width, int filled, int least) {
        Desk d = three();
        Desk.due("comment '" + text + "'", d.comment(1, text) >= 0, true);
        d.x.page(1, width, 0);
        Desk.due("filled '" + text + "' at " + width, d.x.about(3), filled);
        d.x.page(1, width, 1);
        Desk.due("least '" + text + "' at " + width, d.x.about(3), least);
    }

    private static void nameOfAnEntry() {
        Desk.sentence("its NAME (of a MEMBER TYPE.NAME)");
        Desk d = new Desk();
        d.type("A", NONE);
        d.member("m", 0, false);
        d.type("Abcdefghij", 0);
        d.member("abcdefghij", 2, false);
        for (int how = 0; how < 2; how++) {
            due(d, 0, 12, how, "A");
            due(d, 1, 12, how, "A.m");
            due(d, 2, 12, how, "Abcdefghij");
            due(d, 3, 12, how, "Abcdefghij.abcdefghij");
        }
    }

    private static void partsWithLines() {
        Desk.sentence("ahead of each that has LINES (but the first) an empty LINE");
        due("", 20, 0, "A.m");
        due("x", 20, 0, "A.m", "", "x");
        due("@return", 20, 0, "A.m", "", "return");
        due("x\n@return", 20, 0, "A.m", "", "x", "", "return");
        due("{link A}", 20, 0, "A.m", "", "A[1]", "", "[1] A");
        due("@see A", 20, 0, "A.m", "", "see A[1]", "", "[1] A");
        due("x\n@see A", 20, 0, "A.m", "", "x", "", "see A[1]", "", "[1] A");
        due("{inherit}", 20, 0, "A.m");
        due("{inherit}\n@see A", 20, 0, "A.m", "", "see A[1]", "", "[1] A");
        due("-", 20, 0, "A.m", "", "-");
    }

    private static void betweenBlocks() {
        Desk.sentence("an empty LINE between two of them unless the second is an ITEM with an ITEM directly ahead");
        due("a\n\nb", 20, 0, "A.m", "", "a", "", "b");
        due("a\n- b", 20, 0, "A.m", "", "a", "", "- b");
        due("a\n\n- b", 20, 0, "A.m", "", "a", "", "- b");
        due("- a\n- b\n  - c\n- d", 20, 0, "A.m", "", "- a", "- b", "  - c", "- d");
        due("- a\nb\n- c", 20, 0, "A.m", "", "- a b", "- c");
        due("- a\n\n- b", 20, 0, "A.m", "", "- a", "", "- b");
        due("- a\n   \n\n- b", 20, 0, "A.m", "", "- a", "", "- b");
        due("- a\n\nb\n- c", 20, 0, "A.m", "", "- a", "", "b", "", "- c");
        due("-\n-\n\n-", 20, 0, "A.m", "", "-", "-", "", "-");
    }

    private static void betweenBlocksOfTwoComments() {
        Desk.sentence("an ITEM with an ITEM directly ahead (as in 2, in its COMMENT)");
        Desk d = three();
        d.comment(1, "- a\n- b");
        d.comment(3, "{inherit}\n- c\n- d");
        due(d, 3, 20, 0, "B.m", "", "- a", "- b", "", "- c", "- d");
        d.comment(3, "- c\n\n{inherit}\n- d");
        due(d, 3, 20, 0, "B.m", "", "- c", "", "- a", "- b", "", "- d");
        d.x.bare(1);
        due(d, 3, 20, 0, "B.m", "", "- c", "", "- d");
    }

    private static void orderOfTags() {
        Desk.sentence("@param ones as they stand, then @return, @throws, @see (each as they stand), @since");
        due("@since 1\n@see Y\n@throws Y\n@param b\n@see X\n@return\n@throws X\n@param a", 20, 0, "A.m", "", "param b",
                "param a", "return", "throws Y[?]", "throws X[?]", "see Y[?]", "see X[?]", "since 1");
    }

    private static void tagsOfTheCommentThatCounts() {
        Desk.sentence("its TAGS");
        Desk d = three();
        d.comment(1, "a\n@return x");
        due(d, 5, 20, 0, "C.m", "", "a", "", "return x");
        d.comment(3, "{inherit}\n@since 1");
        due(d, 5, 20, 0, "C.m", "", "a", "", "since 1");
        d.comment(5, "");
        due(d, 5, 20, 0, "C.m");
    }

    private static void inheritReplaced() {
        Desk.sentence("{inherit} is replaced by all BLOCKS but TAGS of the COMMENT that counts for the one ABOVE the ENTRY that has this COMMENT");
        Desk d = three();
        d.comment(1, "a\n- b\n@return never");
        d.comment(3, "c\n\n{inherit}\n\nd\n@since 1");
        due(d, 3, 20, 0, "B.m", "", "c", "", "a", "", "- b", "", "d", "", "since 1");
        due(d, 5, 20, 0, "C.m", "", "c", "", "a", "", "- b", "", "d", "", "since 1");
        d.comment(5, "{inherit}\n\ne");
        due(d, 5, 20, 0, "C.m", "", "c", "", "a", "", "- b", "", "d", "", "e");
        d.x.bare(3);
        due(d, 5, 20, 0, "C.m", "", "a", "", "- b", "", "e");
        d.comment(3, "");
        due(d, 5, 20, 0, "C.m", "", "e");
    }

    private static void inheritOfNothing() {
        Desk.sentence("(nothing: there is none)");
        due("{inherit}", 20, 1, "A.m");
        due("a\n\n{inherit}\n\nb", 20, 1, "A.m", "", "a", "", "b");
        Desk d = three();
        d.comment(3, "{inherit}\n@return");
        due(d, 3, 20, 1, "B.m", "", "return");
        d.comment(1, "@return never\n@see A");
        due(d, 3, 20, 1, "B.m", "", "return");
        d.comment(1, "{inherit}");
        due(d, 3, 20, 1, "B.m", "", "return");
    }

    private static void inheritOverAllLevels() {
        Desk.sentence("(in which it is replaced likewise)");
        Desk d = new Desk();
        StringBuilder want = new StringBuilder("T19.m\n");
        for (int i = 0; i < 20; i++) {
            d.type("T" + i, i == 0 ? NONE : 2 * i - 2);
            d.member("m", 2 * i, false);
            d.comment(2 * i + 1, "{inherit}\n\nx" + i);
            want.append("\nx").append(i).append('\n');
        }
        Desk.due("twenty levels", d.page(39, 12, 0), want.toString());
        d.comment(39, "y\n\n{inherit}");
        Desk.due("ahead of them", d.page(39, 12, 0),
                "T19.m\n\ny\n" + want.substring(6, want.length() - 5));
    }

    private static void linesOfWidth() {
        Desk.sentence("LINES of WIDTH columns; Between two CHUNKS of a LINE is one blank");
        for (int width : new int[] {12, 13, 59, 60}) {
            String rest = "y".repeat(width - 6);
            for (int how = 0; how < 2; how++) {
                due("xxxxx " + rest, width, how, "A.m", "", "xxxxx " + rest);
                due("xxxxx    \n   " + rest, width, how, "A.m", "", "xxxxx " + rest);
                due("xxxxx " + rest + "y", width, how, "A.m", "", "xxxxx", rest + "y");
                due("xxxxx " + rest + " z", width, how, "A.m", "", "xxxxx " + rest, "z");
            }
        }
    }

    private static void itemColumns() {
        Desk.sentence("ITEMS: at 2 DEPTH there is \"- \", all LINES begin behind it");
        for (int how = 0; how < 2; how++) {
            due("- aaaaa bbbb\n  - aaa bbbb\n    - a bbbb", 12, how, "A.m", "", "- aaaaa bbbb", "  - aaa bbbb",
                    "    - a bbbb");
            due("- aaaaa bbbbb\n  - aaa bbbbb\n    - a bbbbb", 12, how, "A.m", "", "- aaaaa", "  bbbbb", "  - aaa",
                    "    bbbbb", "    - a", "      bbbbb");
        }
    }

    private static void tagColumns() {
        Desk.sentence("TAGS: CHUNKS at column 0; LINES behind the first one begin at column 4");
        for (int how = 0; how < 2; how++) {
            due("@return aaaaa bbbbbbbb", 12, how, "A.m", "", "return aaaaa", "    bbbbbbbb");
            due("@return aaaaa bbbb ccc", 12, how, "A.m", "", "return aaaaa", "    bbbb ccc");
            due("@return aaaaa bbbb cccc", 12, how, "A.m", "", "return aaaaa", "    bbbb", "    cccc");
            due("@return aaaaaa b", 12, how, "A.m", "", "return", "    aaaaaa b");
        }
    }

    private static void tagHeads() {
        Desk.sentence("\"param NAME\", \"return\", \"throws LINK\", \"see LINK\", \"since NUMBER\" (one CHUNK each)");
        for (int how = 0; how < 2; how++) {
            due("@param abcdef x", 14, how, "A.m", "", "param abcdef x");
            due("@param abcdefg x", 14, how, "A.m", "", "param abcdefg", "    x");
            due("@param abcdefghij x", 12, how, "A.m", "", "param abcdefghij", "    x");
            due("@throws Abcdefghij x\n@see Abcdefghij.abcdefghij", 12, how, "A.m", "", "throws Abcdefghij[?]", "    x",
                    "see Abcdefghij.abcdefghij[?]");
            due("@param   a   b\n@throws   X   b\n@see   X  \n@since   0001  ", 20, how, "A.m", "", "param a b",
                    "throws X[?] b", "see X[?]", "since 0001");
        }
    }

    private static void gluedIsOneChunk() {
        Desk.sentence("CHUNKS (PIECES that are GLUED are one)");
        for (int how = 0; how < 2; how++) {
            due("aaaa{code bbbb}{link X c} d", 14, how, "A.m", "", "aaaabbbbc[?] d");
            due("aaaa{code bbbb}{link X c} d", 13, how, "A.m", "", "aaaabbbbc[?]", "d");
            due("x aaaa{code bbbb}{link X c}", 13, how, "A.m", "", "x", "aaaabbbbc[?]");
            due("aaaa {code bbbb} {link X c}", 12, how, "A.m", "", "aaaa bbbb", "c[?]");
        }
    }

    private static void codeIsItsBytes() {
        Desk.sentence("CODE is its bytes");
        for (int how = 0; how < 2; how++) {
            due("{code {a}  {b c} } d", 20, how, "A.m", "", "{a}  {b c}  d");
            due("x {code aaa bbb ccc}", 12, how, "A.m", "", "x", "aaa bbb ccc");
            due("{code  } {code  }", 12, how, "A.m", "", "   ");
            due("{code " + "y".repeat(60) + "}", 60, how, "A.m", "", "y".repeat(60));
        }
    }

    private static void linkIsLabel() {
        Desk.sentence("A LINK is its LABEL, or REFERENCE, and \"[k]\"");
        due("{link A} {link A   the  type} {link A.m}", 60, 0, "A.m", "", "A[1] the  type[1] A.m[2]", "", "[1] A",
                "[2] A.m");
        due("{link A " + "y".repeat(60) + "}", 60, 0, "A.m", "", "y".repeat(60) + "[1]", "", "[1] A");
        for (int how = 0; how < 2; how++) {
            due("xxx {link A ab cd}", 12, how, "A.m", "", "xxx ab cd[1]", "", "[1] A");
            due("xxxx {link A ab cd}", 12, how, "A.m", "", "xxxx", "ab cd[1]", "", "[1] A");
        }
    }

    private static void targetsFrom1() {
        Desk.sentence("TARGETS of a PAGE are numbered from 1 on, as their first LINK comes in it");
        due("{link B} {link A} {link B x}\n- {link A y} {link m}", 60, 0, "A.m", "", "B[1] A[2] x[1]", "",
                "- y[2] m[3]", "", "[1] B", "[2] A", "[3] A.m");
        due("{link A.m} {link m} {link B.m}", 60, 0, "A.m", "", "A.m[1] m[1] B.m[2]", "", "[1] A.m", "[2] B.m");
    }

    private static void targetsInOrderOfThePage() {
        Desk.sentence("as their first LINK comes in it; @throws, @see are LINKS, too");
        due("x\n@see A\n@throws B {link C} {link A}\n@return {link m}\n@see B", 60, 0, "A.m", "", "x", "",
                "return m[1]", "throws B[2] C[3] A[4]", "see A[4]", "see B[2]", "", "[1] A.m", "[2] B", "[3] C", "[4] A");
        Desk d = three();
        d.comment(1, "{link A}");
        d.comment(3, "{inherit}\n\n{link B} {link A}");
        due(d, 3, 60, 0, "B.m", "", "A[1]", "", "B[2] A[1]", "", "[1] A", "[2] B");
    }

    private static void fortyTargets() {
        Desk.sentence("TARGETS: as many as there are ENTRIES");
        Desk d = new Desk();
        StringBuilder text = new StringBuilder();
        StringBuilder shown = new StringBuilder();
        StringBuilder list = new StringBuilder();
        for (int i = 0; i < 40; i++) {
            String name = i < 26 ? "" + (char) ('A' + i) : "" + (char) ('a' + i - 26);
            if (i < 26) {
                d.type(name, NONE);
            } else {
                d.member(name, 0, false);
            }
            text.append("{link ").append(name).append('}');
            shown.append(name).append('[').append(i + 1).append(']');
            list.append('[').append(i + 1).append("] ").append(i < 26 ? name : "A." + name).append('\n');
        }
        d.comment(0, text.toString());
        Desk.due("page", d.page(0, 60, 0), "A\n\n" + shown + "\n\n" + list);
        Desk.due("targets", d.x.about(2), 40);
        for (int k = 1; k <= 40; k++) {
            Desk.due("target " + k, d.x.target(k), k - 1);
        }
        Desk.due("target 0", d.x.target(0), BAD);
        Desk.due("target 41", d.x.target(41), BAD);
    }

    private static void leadsToNothing() {
        Desk.sentence("\"[?]\": it leads to nothing");
        due("{link X} {link x y} {link A.x} {link m.m}\n@throws X\n@see X", 60, 0, "A.m", "",
                "X[?] y[?] A.x[?] m.m[?]", "", "throws X[?]", "see X[?]");
        Desk d = three();
        d.comment(1, "{link X}");
        d.x.page(1, 20, 0);
        Desk.due("targets", d.x.about(2), 0);
        Desk.due("target 1", d.x.target(1), BAD);
    }

    private static void leadsFromItsEntry() {
        Desk.sentence("from the ENTRY that has this COMMENT");
        Desk d = three();
        d.member("n", 2, false);
        d.comment(1, "{link m} {link n}\n@see n");
        due(d, 5, 20, 0, "C.m", "", "m[1] n[?]", "", "see n[?]", "", "[1] A.m");
        d.comment(5, "{inherit}\n\n{link m} {link n}\n@see n");
        due(d, 5, 20, 0, "C.m", "", "m[1] n[?]", "", "m[2] n[3]", "", "see n[3]", "", "[1] A.m", "[2] C.m", "[3] B.n");
    }

    private static void blockWithoutChunks() {
        Desk.sentence("A BLOCK without CHUNKS (an ITEM \"- \") is a LINE with nothing (with the \"- \" and no blank behind)");
        for (int how = 0; how < 2; how++) {
            due("-\n  -\n    -\n- ", 12, how, "A.m", "", "-", "  -", "    -", "-");
        }
        badness("-\n  -\n    -", 12, 0, 0);
        Desk d = three();
        d.comment(1, "-\n  -\n    -");
        d.x.page(1, 12, 0);
        Desk.due("longest", d.x.about(4), 5);
    }

    private static void mostChunks() {
        Desk.sentence("from its CHUNKS: as many, and as long ones, as there can be");
        for (int how = 0; how < 2; how++) {
            Desk d = three();
            d.comment(1, "x ".repeat(120));
            Desk.due("of 120 pieces", d.page(1, 12, how), "A.m\n\n" + "x x x x x x\n".repeat(20));
            d.comment(1, "@return" + " x".repeat(120));
            // Three chunks stand behind "return", four in each of the LINES behind it, one in the last.
            Desk.due("of a tag with 120 pieces", d.page(1, 12, how),
                    "A.m\n\nreturn x x x\n" + "    x x x x\n".repeat(29) + "    x\n");
            d.comment(1, "@throws X " + "x".repeat(590));
            Desk.due("of a full tape", d.page(1, 12, how), "A.m\n\nthrows X[?]\n    " + "x".repeat(590) + "\n");
            d.comment(1, "@throws A " + "x{link B}".repeat(60));
            Desk.due("of a full tape with links", d.page(1, 12, how),
                    "A.m\n\nthrows A[1]\n    " + "xB[2]".repeat(60) + "\n\n[1] A\n[2] B\n");
        }
    }

    private static void filledTakesOne() {
        Desk.sentence("each LINE takes as many CHUNKS as fit, one at least (which may be too long)");
        due("aaaaaaaaaaaaa", 12, 0, "A.m", "", "aaaaaaaaaaaaa");
        due("a bbbbbbbbbbbbb c d", 12, 0, "A.m", "", "a", "bbbbbbbbbbbbb", "c d");
        due("- aaaaaaaaaa b", 12, 0, "A.m", "", "- aaaaaaaaaa", "  b");
        due("- aaaaaaaaaaa b", 12, 0, "A.m", "", "- aaaaaaaaaaa", "  b");
        due("a b c d e f g h", 12, 0, "A.m", "", "a b c d e f", "g h");
        due("aaaaaa bbbb cccc dddddddddddd", 12, 0, "A.m", "", "aaaaaa bbbb", "cccc", "dddddddddddd");
        due("x".repeat(600), 60, 0, "A.m", "", "x".repeat(600));
    }

    private static void leastOfAll() {
        Desk.sentence("LEAST (1): the sum of the squares of the columns left over in all LINES .. is the least that there is");
        // 1 + 64 when it is filled; 36 + 9 is the least.
        due("aaaaaa bbbb cccc dddddddddddd", 12, 1, "A.m", "", "aaaaaa", "bbbb cccc", "dddddddddddd");
        badness("aaaaaa bbbb cccc dddddddddddd", 12, 65, 45);
        // Behind "- " and from column 4 on the columns left over are the same as on the page.
        badness("- aaaaaa bbbb cccc dddddddddddd", 14, 65, 45);
        badness("@return aaaa b cccccccc", 12, 1 + 49, 36 + 4);
        badness("aaaaaa bbbb cccc dddddddddddd\n\naaaaaa bbbb cccc dddddddddddd", 12, 130, 90);
        // Three CHUNKS in the first LINE: 0 + 64; one: 49 + 1; two: 25 + 9.
        due("aaaaa b cccc dddd eeeeeeeeeeee", 12, 1, "A.m", "", "aaaaa b", "cccc dddd", "eeeeeeeeeeee");
        badness("aaaaa b cccc dddd eeeeeeeeeeee", 12, 64, 34);
    }

    /** Every block of six chunks, of a length of four each, against all the ways that there are. */
    private static void leastAmongAllWays() {
        Desk.sentence("is the least that there is; of several ways the one that has more CHUNKS in the first LINE in which they part");
        int[] lengths = {1, 3, 6, 13};
        Desk d = three();
        for (int n = 0; n < 4096; n++) {
            List<String> chunks = new ArrayList<>();
            for (int i = 0; i < 6; i++) {
                chunks.add("abcdef".substring(i, i + 1).repeat(lengths[n >> 2 * i & 3]));
            }
            d.comment(1, String.join(" ", chunks));
            StringBuilder want = new StringBuilder("A.m\n\n");
            int from = 0;
            for (int size : Model.leastWay(chunks, 12, 0, 0)) {
                want.append(String.join(" ", chunks.subList(from, from + size))).append('\n');
                from += size;
            }
            Desk.due("page of " + chunks, d.page(1, 12, 1), want.toString());
        }
    }

    private static void leastNotItsLast() {
        Desk.sentence("all LINES of a BLOCK but its last");
        due("a b c d e f", 12, 1, "A.m", "", "a b c d e f");
        badness("a", 12, 0, 0);
        badness("a b c", 60, 0, 0);
        badness("aaaaaaaaaaaa b", 12, 0, 0);
        badness("aaaaaaaaaaa bb", 12, 1, 1);
        badness("aaaaaaaaaaa bb\n- cccccccc dd\n@return eeee ff", 12, 1 + 4 + 1, 1 + 4 + 1);
    }

    private static void leastTooLong() {
        Desk.sentence("(of one that is too long 0)");
        badness("aaaaaaaaaaaaa b", 12, 0, 0);
        badness("aaaaaaaaaaaa b", 12, 0, 0);
        badness("aaaaaaaaaaa bbbbbbbbbbbbbbbbbb cc", 12, 1, 1);
        badness("@return aaaaaaaaa bb", 12, 36, 36);
        due("a bbbbbbbbbbbbb c d", 12, 1, "A.m", "", "a", "bbbbbbbbbbbbb", "c d");
        due("a b " + "x".repeat(596), 12, 1, "A.m", "", "a b", "x".repeat(596));
    }

    private static void leastOfSeveral() {
        Desk.sentence("of several ways the one that has more CHUNKS in the first LINE in which they part");
        // 1 + 49 both ways.
        due("aaaaa bbbbb ccccc dddddddddddd", 12, 1, "A.m", "", "aaaaa bbbbb", "ccccc", "dddddddddddd");
        // The first LINE is the same in both; they part in the second.
        due("xxxxxxxxxxxx aaaaa bbbbb ccccc dddddddddddd", 12, 1, "A.m", "", "xxxxxxxxxxxx", "aaaaa bbbbb", "ccccc",
                "dddddddddddd");
        due("@return aaa bb cccccccc", 12, 1, "A.m", "", "return aaa", "    bb", "    cccccccc");
        due("a bbbbbbbbbb c", 12, 1, "A.m", "", "a bbbbbbbbbb", "c");
        // The last LINE counts nothing, so a full one ahead of it is reached in one way alone.
        due("aaaaa bbbbbb c", 12, 1, "A.m", "", "aaaaa bbbbbb", "c");
    }

    private static void entryIsBad() {
        Desk.sentence("page: BAD");
        Desk d = three();
        d.comment(1, "a {link A}");
        d.x.page(1, 20, 0);
        d.refused("entry -1", BAD, 0, () -> d.x.page(-1, 20, 0));
        d.refused("entry 6", BAD, 0, () -> d.x.page(6, 20, 0));
        for (int entry : FAR) {
            d.refused("entry " + entry, BAD, 0, () -> d.x.page(entry, 20, 1));
        }
        Desk.due("the last", d.x.page(5, 20, 0), 5);
        Desk.due("the first", d.x.page(0, 20, 0), 1);
    }

    private static void widthIsBad() {
        Desk.sentence("BAD: also WIDTH is not 12 to 60");
        Desk d = three();
        d.comment(1, "a {link A}");
        d.x.page(1, 20, 0);
        for (int how = 0; how < 2; how++) {
            int asked = how;
            for (int width : new int[] {-1, 0, 1, 11, 61, 62}) {
                d.refused("width " + width, BAD, 0, () -> d.x.page(1, width, asked));
            }
            for (int width : FAR) {
                d.refused("width " + width, BAD, 0, () -> d.x.page(1, width, asked));
            }
            for (int width : new int[] {12, 13, 59, 60}) {
                Desk.due("width " + width, d.x.page(1, width, how), 5);
            }
        }
    }

    private static void howIsBad() {
        Desk.sentence("BAD: how not 0, 1");
        Desk d = three();
        d.comment(1, "a {link A}");
        d.x.page(1, 20, 0);
        for (int how : new int[] {-1, 2, 3}) {
            d.refused("how " + how, BAD, 0, () -> d.x.page(1, 20, how));
        }
        for (int how : FAR) {
            d.refused("how " + how, BAD, 0, () -> d.x.page(1, 20, how));
        }
        Desk.due("how 0", d.x.page(1, 20, 0), 5);
        Desk.due("how 1", d.x.page(1, 20, 1), 5);
    }

    /** Seven members that inherit, of which the last has n bytes of its own: 3553 + n bytes on its page. */
    private static Desk chain(int n) {
        Desk d = new Desk();
        for (int i = 0; i < 7; i++) {
            d.type("T" + i, i == 0 ? NONE : 2 * i - 2);
            d.member("m", 2 * i, false);
            d.comment(2 * i + 1, "{inherit}\n\n" + "x".repeat(i == 6 ? n : 589));
        }
        return d;
    }

    private static void upTo4000() {
        Desk.sentence("FULL: more than 4000 bytes (with a 10 behind each LINE)");
        // "T6.m", six times an empty LINE with 589 bytes, and one with n: 5 + 6 * 591 + n + 2.
        for (int how = 0; how < 2; how++) {
            Desk.due("3999", chain(446).x.page(13, 12, how), 15);
            Desk d = chain(447);
            Desk.due("4000", d.x.page(13, 12, how), 15);
            Desk.due("bytes", d.x.about(1), 4000);
            Desk.due("last byte", d.x.at(3999), 10);
            Desk.due("the one ahead", d.x.at(3998), 120);
            Desk.due("none behind", d.x.at(4000), 0);
            Desk.due("last line", d.x.line(14), 3552);
            Desk.due("longest", d.x.about(4), 589);
            Desk.due("4001", chain(448).x.page(13, 12, how), DocFormat.FULL);
            Desk.due("4002", chain(449).x.page(13, 12, how), DocFormat.FULL);
            Desk.due("more", chain(589).x.page(13, 12, how), DocFormat.FULL);
        }
        Desk d = chain(446);
        d.comment(13, "{inherit}\n\n" + "x".repeat(444) + "\n-");
        Desk.due("an item without bytes", d.x.page(13, 12, 0), 17);
        Desk.due("bytes", d.x.about(1), 4000);
        d.comment(13, "{inherit}\n\n" + "x".repeat(445) + "\n-");
        Desk.due("one byte more", d.x.page(13, 12, 0), DocFormat.FULL);
    }

    private static void fullByTargets() {
        Desk.sentence("FULL: more than 4000 bytes, TARGETS and TAGS too");
        // Behind 3551 bytes: "", n bytes, "T0[1]", "", "[1] T0": 1 + n + 1 + 6 + 1 + 7.
        Desk d = chain(1);
        d.comment(13, "{inherit}\n\n" + "x".repeat(433) + " {link T0}");
        Desk.due("4000", d.x.page(13, 60, 0), 18);
        Desk.due("bytes", d.x.about(1), 4000);
        d.comment(13, "{inherit}\n\n" + "x".repeat(434) + " {link T0}");
        d.refused("4001", DocFormat.FULL, 0, () -> d.x.page(13, 60, 0));
        d.comment(13, "{inherit}\n\n" + "x".repeat(439) + "\n@return");
        Desk.due("4000", d.x.page(13, 60, 0), 17);
        Desk.due("bytes", d.x.about(1), 4000);
        d.comment(13, "{inherit}\n\n" + "x".repeat(440) + "\n@return");
        d.refused("4001", DocFormat.FULL, 0, () -> d.x.page(13, 60, 0));
    }

    private static void fullChangesNothing() {
        Desk.sentence("what is refused changes nothing: page");
        Desk d = chain(448);
        d.refused("without a page", DocFormat.FULL, 0, () -> d.x.page(13, 12, 0));
        d.comment(1, "a {link T0} bbbbbbbbbbbbbbbb c\n@see T0.m");
        d.x.page(1, 12, 1);
        d.comment(1, "{inherit}\n\n" + "y".repeat(589));
        d.tape("stays");
        for (int how = 0; how < 2; how++) {
            int asked = how;
            d.refused("with one", DocFormat.FULL, 5, () -> d.x.page(13, 12, asked));
            d.refused("with one, wide", DocFormat.FULL, 5, () -> d.x.page(13, 60, asked));
        }
        Desk.due("the old page", d.page(),
                "T0.m\n\na T0[1]\nbbbbbbbbbbbbbbbb\nc\n\nsee T0.m[2]\n\n[1] T0\n[2] T0.m\n");
    }

    private static void badAheadOfFull() {
        Desk.sentence("the first that fits: BAD, then FULL: page");
        Desk d = chain(448);
        Desk.due("width", d.x.page(13, 11, 0), BAD);
        Desk.due("width", d.x.page(13, 61, 0), BAD);
        Desk.due("how", d.x.page(13, 12, 2), BAD);
        Desk.due("entry", d.x.page(14, 12, 0), BAD);
        Desk.due("none of these", d.x.page(13, 12, 0), DocFormat.FULL);
    }

    private static void aboutAtFirst() {
        Desk.sentence("0 all at first");
        Desk d = chain(448);
        d.x.page(13, 12, 0);
        d.x.page(13, 11, 0);
        for (int what = 0; what < 5; what++) {
            Desk.due("about " + what, d.x.about(what), 0);
        }
        Desk.due("byte", d.x.at(0), 0);
        Desk.due("line", d.x.line(0), BAD);
        Desk.due("target", d.x.target(1), BAD);
    }

    private static void aboutSums() {
        Desk.sentence("3 the sum of what LEAST makes least over all BLOCKS (also when it is FILLED)");
        // Ahead of what is too long for their LINES "a" leaves 11 columns of 12, "- a" 9 and "return" 6.
        badness("a bbbbbbbbbbbb\n- a bbbbbbbbbb\n@return bbbbbbbb", 12, 121 + 81 + 36, 121 + 81 + 36);
        badness("", 12, 0, 0);
        // The most that can be left over: 59 columns, nine times.
        badness(("a " + "b".repeat(60) + " ").repeat(9), 60, 9 * 59 * 59, 9 * 59 * 59);
        Desk d = three();
        d.comment(1, "a bbbbbbbbbbbb");
        d.x.page(1, 12, 0);
        d.comment(1, "a");
        // More than once: no page may begin with what is left from any before it.
        for (int i = 0; i < 3; i++) {
            d.x.page(1, 12, 0);
            Desk.due("of the new page alone", d.x.about(3), 0);
        }
    }

    private static void aboutLongest() {
        Desk.sentence("4 the longest LINE's columns");
        Desk d = new Desk();
        d.type("Abcdefghij", NONE);
        d.member("abcdefghij", 0, false);
        d.x.page(1, 12, 0);
        Desk.due("the name's", d.x.about(4), 21);
        d.comment(1, "a");
        d.x.page(1, 12, 0);
        Desk.due("still the name's", d.x.about(4), 21);
        d.comment(1, "x".repeat(22));
        d.x.page(1, 12, 0);
        Desk.due("a block's", d.x.about(4), 22);
        d.comment(1, "- {link abcdefghij x}");
        d.x.page(1, 12, 0);
        Desk.due("a target's", d.x.about(4), 25);
        d.comment(1, "x".repeat(600));
        d.x.page(1, 12, 1);
        Desk.due("the most", d.x.about(4), 600);
        for (int i = 0; i < 3; i++) {
            d.x.page(0, 12, 1);
            Desk.due("of the new page alone", d.x.about(4), 10);
        }
    }

    private static void aboutIsBad() {
        Desk.sentence("about: BAD");
        Desk d = three();
        d.refused("about -1 without a page", BAD, 0, () -> d.x.about(-1));
        d.refused("about 5 without a page", BAD, 0, () -> d.x.about(5));
        d.comment(1, "a {link A}");
        d.x.page(1, 20, 0);
        d.refused("about -1", BAD, 0, () -> d.x.about(-1));
        d.refused("about 5", BAD, 0, () -> d.x.about(5));
        for (int what : FAR) {
            d.refused("about " + what, BAD, 0, () -> d.x.about(what));
        }
        int[] want = {5, 19, 1, 0, 6};
        for (int what = 0; what < want.length; what++) {
            Desk.due("about " + what, d.x.about(what), want[what]);
        }
    }

    private static void bytes() {
        Desk.sentence("Byte i of THE PAGE (0: there is none such)");
        Desk d = three();
        d.comment(1, "~ !");
        d.x.page(1, 20, 0);
        int[] want = {'A', '.', 'm', 10, 10, '~', ' ', '!', 10};
        for (int i = 0; i < want.length; i++) {
            Desk.due("byte " + i, d.x.at(i), want[i]);
        }
        for (int i : new int[] {-1, 9, 10, 3999}) {
            d.refused("byte " + i, 0, 0, () -> d.x.at(i));
        }
        for (int i : FAR) {
            Desk.due("byte " + i, d.x.at(i), 0);
        }
        d.x.page(0, 20, 0);
        Desk.due("none of the old page", d.x.at(2), 0);
        Desk.due("the last of the new one", d.x.at(1), 10);
    }

    private static void lines() {
        Desk.sentence("Where LINE i of THE PAGE begins");
        Desk d = three();
        d.comment(1, "ab\n- c\n-");
        d.x.page(1, 20, 0);
        int[] want = {0, 4, 5, 8, 9, 13};
        for (int i = 0; i < want.length; i++) {
            Desk.due("line " + i, d.x.line(i), want[i]);
        }
        d.refused("line -1", BAD, 0, () -> d.x.line(-1));
        d.refused("line 6", BAD, 0, () -> d.x.line(6));
        for (int i : FAR) {
            d.refused("line " + i, BAD, 0, () -> d.x.line(i));
        }
        d.x.page(0, 20, 0);
        Desk.due("the only line", d.x.line(0), 0);
        Desk.due("none of the old page", d.x.line(1), BAD);
    }

    private static void targets() {
        Desk.sentence("TARGET k (from 1 on) of THE PAGE");
        Desk d = three();
        d.comment(1, "{link B} {link A}");
        d.x.page(1, 20, 0);
        Desk.due("target 1", d.x.target(1), 2);
        Desk.due("target 2", d.x.target(2), 0);
        d.refused("target 0", BAD, 0, () -> d.x.target(0));
        d.refused("target 3", BAD, 0, () -> d.x.target(3));
        d.refused("target -1", BAD, 0, () -> d.x.target(-1));
        for (int k : FAR) {
            d.refused("target " + k, BAD, 0, () -> d.x.target(k));
        }
        d.x.page(0, 20, 0);
        Desk.due("none of the old page", d.x.target(1), BAD);
    }

    private static void pageBecomesThatOfAnEntry() {
        Desk.sentence("THE PAGE becomes that of an ENTRY: how many LINES");
        Desk d = three();
        d.comment(1, "a {link D}");
        Desk.due("lines", d.x.page(1, 20, 0), 3);
        d.type("D", NONE);
        d.comment(1, "b");
        d.x.bare(1);
        d.x.notes(1);
        Desk.due("stays as it was then", d.page(), "A.m\n\na D[?]\n");
        d.comment(1, "a {link D}");
        due(d, 1, 20, 0, "A.m", "", "a D[1]", "", "[1] D");
    }
}
