/** Promises 14 to 18: page, about, at, line, target. */
public final class PageTest {
    public static void main(String[] args) {
        names();
        paragraphs();
        items();
        tags();
        links();
        glued();
        filledAndLeast();
        tooLong();
        draws();
        inherit();
        inheritOfNothing();
        takenOver();
        most();
        full();
        bad();
        stays();
        Desk.finish();
    }

    /** A (0) with m (1), B below it (2) with m (3) and n (4). */
    private static Desk desk() {
        Desk d = new Desk();
        d.type("A", -1);
        d.member("m", 0, true);
        d.type("B", 0);
        d.member("m", 2, true);
        d.member("n", 2, false);
        return d;
    }

    private static void due(String text, int width, int how, String... lines) {
        Desk d = desk();
        d.comment(3, text);
        due(d, 3, width, how, lines);
    }

    private static void due(Desk d, int entry, int width, int how, String... lines) {
        String what = "page " + entry + " " + width + " " + how;
        String want = String.join("\n", lines) + "\n";
        Desk.due(what, d.page(entry, width, how), want);
        Desk.due(what + " lines", d.x.about(0), lines.length);
        Desk.due(what + " bytes", d.x.about(1), want.length());
        int longest = 0;
        int start = 0;
        for (int i = 0; i < lines.length; i++) {
            Desk.due(what + " line " + i, d.x.line(i), start);
            start += lines[i].length() + 1;
            longest = Math.max(longest, lines[i].length());
        }
        Desk.due(what + " longest", d.x.about(4), longest);
        Desk.due(what + " behind the last line", d.x.line(lines.length), DocFormat.BAD);
        Desk.due(what + " behind the last byte", d.x.at(want.length()), 0);
    }

    private static void names() {
        Desk d = new Desk();
        d.type("Abcdefghij", -1);
        d.member("abcdefghij", 0, false);
        due(d, 0, 12, 0, "Abcdefghij");
        due(d, 1, 12, 1, "Abcdefghij.abcdefghij");
        d.comment(1, "\n\n");
        due(d, 1, 12, 1, "Abcdefghij.abcdefghij");
    }

    private static void paragraphs() {
        due("one  two\n three\n\n\nfour", 60, 0, "B.m", "", "one two three", "", "four");
        due("one two three", 12, 0, "B.m", "", "one two", "three");
        due("one two four", 12, 0, "B.m", "", "one two four");
        due("{code a  b} {code  } x", 60, 0, "B.m", "", "a  b   x");
    }

    private static void items() {
        due("- one two three\n  - four five six\n    - seven eight", 12, 0,
                "B.m", "", "- one two", "  three", "  - four", "    five six", "    - seven", "      eight");
        due("- a\n- b\n\n- c\nd\n\ne\n- f", 12, 0,
                "B.m", "", "- a", "- b", "", "- c d", "", "e", "", "- f");
        due("-\n  -\n- x", 12, 1, "B.m", "", "-", "  -", "- x");
        due("- one two four", 14, 0, "B.m", "", "- one two four");
        due("- one two four", 13, 0, "B.m", "", "- one two", "  four");
    }

    private static void tags() {
        due("@since 12\n@see Gone\n@throws Gone it\n@return a b\n@param b x\n@throws No\n@param a", 60, 0,
                "B.m", "", "param b x", "param a", "return a b", "throws Gone[?] it", "throws No[?]", "see Gone[?]",
                "since 12");
        due("text\n@return one two three four five", 12, 0,
                "B.m", "", "text", "", "return one", "    two", "    three", "    four", "    five");
        due("@param abcdefghij x", 12, 0, "B.m", "", "param abcdefghij", "    x");
    }

    private static void links() {
        Desk d = desk();
        d.comment(3, "{link n} {link A the type} {link n again} {link Gone}\n@see m\n@throws A.m\n@see A");
        due(d, 3, 60, 0, "B.m", "", "n[1] the type[2] again[1] Gone[?]", "", "throws A.m[3]", "see m[4]", "see A[2]",
                "", "[1] B.n", "[2] A", "[3] A.m", "[4] B.m");
        int[] targets = {-1, 4, 0, 1, 3, -1};
        for (int k = 0; k < targets.length; k++) {
            Desk.due("target " + k, d.x.target(k), targets[k]);
        }
        Desk.due("targets", d.x.about(2), 4);
        Desk.due("target -1", d.x.target(-1), DocFormat.BAD);

        Desk many = new Desk();
        StringBuilder text = new StringBuilder();
        for (int i = 0; i < 11; i++) {
            many.type("T" + i, -1);
            text.append("{link T" + i + "} ");
        }
        many.comment(0, text.toString());
        Desk.due("ten and more", many.page(0, 60, 0).contains("T8[9] T9[10]\nT10[11]\n"), true);
        Desk.due("their lines", many.page().endsWith("\n[9] T8\n[10] T9\n[11] T10\n"), true);
    }

    private static void glued() {
        due("a{code b c}{link Gone d e}. f", 60, 0, "B.m", "", "ab cd e[?]. f");
        due("a{code b c}{link Gone d e}. f", 12, 0, "B.m", "", "ab cd e[?].", "f");
        due("x {code one two} {code three four}", 12, 0, "B.m", "", "x one two", "three four");
        due("{code a}\n{code b}", 12, 0, "B.m", "", "a b");
    }

    private static void filledAndLeast() {
        // Filled: 12 - 11 = 1, 12 - 4 = 8; least: 12 - 6 = 6, 12 - 9 = 3.
        String text = "aaaaaa bbbb cccc dddddddddddd";
        due(text, 12, 0, "B.m", "", "aaaaaa bbbb", "cccc", "dddddddddddd");
        due(text, 12, 1, "B.m", "", "aaaaaa", "bbbb cccc", "dddddddddddd");
        badness(text, 12, 0, 1 + 64);
        badness(text, 12, 1, 36 + 9);
        badness("- " + text, 14, 0, 1 + 64);
        badness(text + "\n- " + text + "\n\nshort\n-", 12, 1, 45 + 4 * 4 + 1);
        // Of a tag all lines but the first begin at column 4.
        badness("@return aaaa b cccccccc", 12, 0, 1 + 49);
        badness("@return aaaa b cccccccc", 12, 1, 36 + 4);
        due("@return aaaa b cccccccc", 12, 1, "B.m", "", "return", "    aaaa b", "    cccccccc");
    }

    private static void badness(String text, int width, int how, int want) {
        Desk d = desk();
        d.comment(3, text);
        d.x.page(3, width, how);
        Desk.due("badness " + how + " of '" + text + "' at " + width + " in\n" + d.page(), d.x.about(3), want);
    }

    private static void tooLong() {
        String text = "aa bbbbbbbbbbbbbbb cc dd";
        due(text, 12, 0, "B.m", "", "aa", "bbbbbbbbbbbbbbb", "cc dd");
        due(text, 12, 1, "B.m", "", "aa", "bbbbbbbbbbbbbbb", "cc dd");
        badness(text, 12, 0, 100);
        badness(text, 12, 1, 100);
        badness("bbbbbbbbbbbbbbb aa", 12, 1, 0);
        due("x " + "y".repeat(70), 60, 1, "B.m", "", "x", "y".repeat(70));
    }

    private static void draws() {
        // 1 + 49 either way: more chunks come first.
        String text = "aaaaa bbbbb ccccc dddddddddddd";
        due(text, 12, 1, "B.m", "", "aaaaa bbbbb", "ccccc", "dddddddddddd");
        badness(text, 12, 1, 1 + 49);
        // 4 + 36 either way.
        due("@return aaa bb cccccccc", 12, 1, "B.m", "", "return aaa", "    bb", "    cccccccc");
        // The last line does not count: all chunks that fit come first.
        due("a b c", 12, 1, "B.m", "", "a b c");
    }

    private static void inherit() {
        Desk d = desk();
        d.type("C", 2);
        d.member("m", 5, false);
        d.comment(1, "- top {link m}\n- two\n@return never");
        d.comment(3, "ahead\n\n{inherit}\n- behind {link m}\n@see A");
        d.comment(6, "{inherit}\n\nlast {link m}\n@param x");
        due(d, 6, 40, 0, "C.m", "", "ahead", "", "- top m[1]", "- two", "", "- behind m[2]", "", "last m[3]", "",
                "param x", "", "[1] A.m", "[2] B.m", "[3] C.m");
        d.x.bare(3);
        due(d, 6, 40, 0, "C.m", "", "- top m[1]", "- two", "", "last m[2]", "", "param x", "", "[1] A.m", "[2] C.m");
    }

    private static void inheritOfNothing() {
        due("{inherit}", 40, 0, "B.m");
        due("a\n\n{inherit}\n\nb", 40, 0, "B.m", "", "a", "", "b");
        due("{inherit}\n- b", 40, 0, "B.m", "", "- b");
        due("{inherit}\n@return", 40, 0, "B.m", "", "return");
    }

    private static void takenOver() {
        Desk d = desk();
        d.comment(1, "see {link n} {link m}\n@see m");
        due(d, 3, 40, 0, "B.m", "", "see n[?] m[1]", "", "see m[1]", "", "[1] A.m");
        due(d, 4, 40, 0, "B.n");
        d.comment(3, "");
        due(d, 3, 40, 0, "B.m");
    }

    /** As many pieces in a block, and as many blocks on a page, as there can be. */
    private static void most() {
        Desk d = desk();
        d.comment(3, "@return" + " x".repeat(120));
        for (int how = 0; how < 2; how++) {
            d.x.page(3, 20, how);
            Desk.due("bytes of 120 pieces", d.x.about(1), 4 + 1 + 6 + 14 + 1 + 14 * (4 + 15 + 1) + 4 + 2);
            Desk.due("lines of 120 pieces", d.x.about(0), 2 + 1 + 15);
        }

        Desk chain = new Desk();
        for (int i = 0; i < 20; i++) {
            chain.type("T" + i, i == 0 ? -1 : 2 * i - 2);
            chain.member("m", 2 * i, false);
            chain.comment(2 * i + 1, "{inherit}\n" + "-\n".repeat(23));
        }
        for (int how = 0; how < 2; how++) {
            Desk.due("all levels", chain.page(39, 12, how), "T19.m\n" + ("\n" + "-\n".repeat(23)).repeat(20));
        }
    }

    /** Members that inherit from one another, until a page would be too long. */
    private static void full() {
        Desk d = new Desk();
        for (int i = 0; i < 7; i++) {
            d.type("T" + i, i == 0 ? -1 : 2 * i - 2);
            d.member("m", 2 * i, false);
            d.comment(2 * i + 1, "{inherit}\n\n" + "x".repeat(i == 6 ? 430 : 589));
        }
        // "T6.m", an empty line and 589 for each of six: 5 + 6 * 591 = 3551; 449 are left.
        Desk.due("below full", d.x.page(13, 12, 0), 15);
        Desk.due("its bytes", d.x.about(1), 3551 + 432);
        Desk.due("fits", d.comment(13, "{inherit}\n\n" + "x".repeat(447)), 2);
        Desk.due("just full", d.x.page(13, 12, 1), 15);
        Desk.due("its bytes", d.x.about(1), 4000);
        Desk.due("last byte", d.x.at(3999), 10);
        Desk.due("no byte behind it", d.x.at(4000), 0);
        d.comment(13, "{inherit}\n\n" + "y".repeat(448));
        Desk.due("too long", d.x.page(13, 12, 0), DocFormat.FULL);
        Desk.due("the page stays", d.x.about(1), 4000);
        Desk.due("its bytes stay", d.x.at(3998), (int) 'x');
        Desk.due("BAD ahead of FULL", d.x.page(13, 11, 0), DocFormat.BAD);
        Desk.due("another one", d.page(0, 12, 0), "T0\n");
    }

    private static void bad() {
        Desk d = desk();
        d.comment(3, "a {link A}");
        d.x.page(3, 20, 0);
        int[][] wrong = {{5, 20, 0}, {-1, 20, 0}, {3, 11, 0}, {3, 61, 0}, {3, 20, 2}, {3, 20, -1}, {3, -20, 0}};
        for (int[] w : wrong) {
            Desk.due("page " + w[0] + " " + w[1] + " " + w[2], d.x.page(w[0], w[1], w[2]), DocFormat.BAD);
        }
        Desk.due("the page stays", d.page(), "B.m\n\na A[1]\n\n[1] A\n");
        Desk.due("width 12", d.x.page(3, 12, 0), 5);
        Desk.due("width 60", d.x.page(3, 60, 1), 5);
        Desk.due("about 5", d.x.about(5), DocFormat.BAD);
        Desk.due("about -1", d.x.about(-1), DocFormat.BAD);
        Desk.due("at -1", d.x.at(-1), 0);
        Desk.due("at 20", d.x.at(20), 0);
        Desk.due("at largest", d.x.at(Integer.MAX_VALUE), 0);
        Desk.due("line -1", d.x.line(-1), DocFormat.BAD);
        Desk.due("line 5", d.x.line(5), DocFormat.BAD);
        Desk.due("target 0", d.x.target(0), DocFormat.BAD);
        Desk.due("target 2", d.x.target(2), DocFormat.BAD);
    }

    /** A page is that of its call, whatever comes behind it. */
    private static void stays() {
        Desk d = desk();
        d.comment(3, "a {link C}");
        d.x.page(3, 20, 0);
        d.type("C", -1);
        d.comment(3, "b");
        Desk.due("page", d.page(), "B.m\n\na C[?]\n");
        Desk.due("targets", d.x.about(2), 0);
        d.comment(3, "a {link C}");
        Desk.due("page anew", d.page(3, 20, 0), "B.m\n\na C[1]\n\n[1] C\n");
    }
}
