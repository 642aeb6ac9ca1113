/** The bounds of PIECES and of {inherit} (part 2 of the Terms), a sentence each: promises 7, 8 and 12. */
public final class PiecesBoundsTest {
    public static void main(String[] args) {
        wordBytes();
        wordLengths();
        gluedOrNot();
        gluedInItsBlock();
        codeBytes();
        codeLengths();
        codePairs();
        codeInOneLine();
        linkReference();
        linkLabel();
        linkLabelLengths();
        linkBlanks();
        linkInOneLine();
        linkLeadsFromEntry();
        inheritAlone();
        inheritNotAlone();
        inheritOfMembers();
        inheritTwice();
        closingBrace();
        openingBrace();
        Desk.finish();
    }

    private static void due(String text, String want) {
        Desk.due("'" + text.replace("\n", "\\n") + "'", Desk.small().read(1, text), want);
    }

    /** Each piece as "sort/place/shown/glued", a link with "/leads to" behind it. */
    private static void pieces(String text, String want) {
        Desk d = Desk.small();
        int blocks = d.comment(1, text);
        StringBuilder all = new StringBuilder();
        for (int i = 0; i < d.x.told(1, 7); i++) {
            all.append(i == 0 ? "" : " ");
            for (int what = 0; what < 4; what++) {
                all.append(what == 0 ? "" : "/").append(d.x.piece(1, i, what));
            }
            all.append(d.x.piece(1, i, 0) == 2 ? "/" + d.x.piece(1, i, 4) : "");
            Desk.due("leads of no link", d.x.piece(1, i, 0) == 2 || d.x.piece(1, i, 4) == -1, true);
        }
        Desk.due("'" + text + "'", blocks < 0 ? Integer.toString(blocks) : all.toString(), want);
    }

    private static void wordBytes() {
        Desk.sentence("A WORD: bytes that are no blank, {, }");
        for (int b = 33; b < 127; b++) {
            if (b != '{' && b != '}') {
                pieces("x" + (char) b + "y", "0/0/3/0");
            }
        }
        pieces("x y", "0/0/1/0 0/2/1/0");
        pieces("x{code y}", "0/0/1/0 1/1/1/1");
        pieces("z|~", "0/0/3/0");
        pieces("x@y", "0/0/3/0");
    }

    private static void wordLengths() {
        Desk.sentence("A WORD has one byte at least, and as many as come");
        pieces("x", "0/0/1/0");
        pieces("x".repeat(61), "0/0/61/0");
        pieces("x".repeat(600), "0/0/600/0");
    }

    private static void gluedOrNot() {
        Desk.sentence("between blanks and LINES' ends, or GLUED to one another");
        pieces("a{code b}{link A}c", "0/0/1/0 1/1/1/1 2/9/1/1/0 0/17/1/1");
        pieces("a {code b} {link A} c", "0/0/1/0 1/2/1/0 2/11/1/0/0 0/20/1/0");
        pieces("a\n{code b}\n{link A}\nc", "0/0/1/0 1/2/1/0 2/11/1/0/0 0/20/1/0");
        pieces("  a   b  ", "0/2/1/0 0/6/1/0");
        pieces("{code a}{code b}", "1/0/1/0 1/8/1/1");
        pieces("{link A}{link m}", "2/0/1/0/0 2/8/1/1/1");
    }

    private static void gluedInItsBlock() {
        Desk.sentence("GLUED to the one before it in its BLOCK");
        pieces("a\n\n{code b}\n- {code c}\n@return {code d}", "0/0/1/0 1/3/1/0 1/14/1/0 1/31/1/0");
        pieces("@param a {code d}", "1/9/1/0");
        pieces("@throws A d", "0/10/1/0");
    }

    private static void codeBytes() {
        Desk.sentence("CODE: \"{code \", then bytes up to its }");
        pieces("{code a}", "1/0/1/0");
        pieces("{code  }", "1/0/1/0");
        pieces("{code  a b }", "1/0/5/0");
        pieces("{code @return - x}", "1/0/11/0");
        pieces("- {code a}", "1/2/1/0");
        for (String wrong : new String[] {"{code}", "{code", "{codea}", "{ code a}", "{Code a}", "{cod a}", "{codes a}"}) {
            due(wrong, "2 at 0");
            due("x " + wrong, "2 at 2");
            due("x" + wrong, "2 at 1");
        }
    }

    private static void codeLengths() {
        Desk.sentence("CODE: 1 to 60");
        due("{code }", "2 at 0");
        due("{code }}", "2 at 0");
        pieces("{code x}", "1/0/1/0");
        pieces("{code " + "x".repeat(59) + "}", "1/0/59/0");
        pieces("{code " + "x".repeat(60) + "}", "1/0/60/0");
        due("{code " + "x".repeat(61) + "}", "2 at 0");
        due("{code " + "x".repeat(593) + "}", "2 at 0");
        pieces("{code " + " ".repeat(60) + "}", "1/0/60/0");
        due("{code " + " ".repeat(61) + "}", "2 at 0");
        pieces("{code {" + "x".repeat(58) + "}}", "1/0/60/0");
        due("{code {" + "x".repeat(59) + "}}", "2 at 0");
    }

    private static void codePairs() {
        Desk.sentence("CODE: with { } in pairs");
        pieces("{code {}}", "1/0/2/0");
        pieces("{code {}{}}", "1/0/4/0");
        pieces("{code a{b{c}d}e} f", "1/0/9/0 0/17/1/0");
        pieces("{code {code {link A}}}", "1/0/15/0");
        due("{code {}", "2 at 0");
        due("{code {{}}", "2 at 0");
        due("{code x}}", "2 at 8");
        due("{code {}}}", "2 at 9");
        due("{code " + "{".repeat(30) + "}".repeat(30) + "}", "1 blocks");
        due("{code " + "{".repeat(30) + "}".repeat(30), "2 at 0");
        due("{code " + "{".repeat(594), "2 at 0");
    }

    private static void codeInOneLine() {
        Desk.sentence("CODE: in one LINE");
        due("{code\na}", "2 at 0");
        due("{code \na}", "2 at 0");
        due("{code a\n}", "2 at 0");
        due("{code {\n}}", "2 at 0");
        due("{code a", "2 at 0");
        due("a\n{code a}\nb", "1 blocks");
    }

    private static void linkReference() {
        Desk.sentence("LINK: \"{link \", REFERENCE");
        pieces("{link A}", "2/0/1/0/0");
        pieces("{link m}", "2/0/1/0/1");
        pieces("{link A.m}", "2/0/3/0/1");
        pieces("{link m.A}", "2/0/3/0/-1");
        pieces("{link Gone}", "2/0/4/0/-1");
        pieces("{link Abcdefghij}", "2/0/10/0/-1");
        pieces("{link Abcdefghij.abcdefghij}", "2/0/21/0/-1");
        String[] wrong = {"{link}", "{link }", "{link", "{link ", "{link A", "{Link A}", "{links A}", "{linkA}", "{link 1}",
            "{link .}", "{link A.}", "{link .m}", "{link A.b.c}", "{link A,}", "{link Abcdefghijk}", "{link A.abcdefghijk}",
            "{link Abcdefghijk.m}", "{link A{}}", "{link {A}}", "{link -}"};
        for (String text : wrong) {
            due(text, "2 at 0");
            due("x " + text, "2 at 2");
            due("x" + text, "2 at 1");
        }
    }

    private static void linkLabel() {
        Desk.sentence("perhaps blanks and a LABEL: bytes but { }");
        pieces("{link A x}", "2/0/1/0/0");
        pieces("{link A the  way -@.~|z!}", "2/0/16/0/0");
        pieces("{link Gone A}", "2/0/1/0/-1");
        due("{link A x{}", "2 at 0");
        due("{link A {x}}", "2 at 0");
        due("{link A {code x}}", "2 at 0");
        due("{link A x{", "2 at 0");
        due("{link A x}}", "2 at 10");
    }

    private static void linkLabelLengths() {
        Desk.sentence("LABEL: 1 to 60");
        due("{link A }", "2 at 0");
        pieces("{link A y}", "2/0/1/0/0");
        pieces("{link A " + "y".repeat(59) + "}", "2/0/59/0/0");
        pieces("{link A " + "y".repeat(60) + "}", "2/0/60/0/0");
        due("{link A " + "y".repeat(61) + "}", "2 at 0");
        pieces("{link A y" + " ".repeat(58) + "y}", "2/0/60/0/0");
        due("{link A y" + " ".repeat(59) + "y}", "2 at 0");
        due("{link A " + "y".repeat(591) + "}", "2 at 0");
    }

    private static void linkBlanks() {
        Desk.sentence("LABEL: beginning and ending with no blank");
        pieces("{link A      y}", "2/0/1/0/0");
        pieces("{link A " + " ".repeat(590) + "y}", "2/0/1/0/0");
        due("{link A y }", "2 at 0");
        due("{link A y   }", "2 at 0");
        due("{link A   }", "2 at 0");
        due("{link  A}", "2 at 0");
        due("{link  A y}", "2 at 0");
    }

    private static void linkInOneLine() {
        Desk.sentence("LINK: in one LINE");
        due("{link\nA}", "2 at 0");
        due("{link \nA}", "2 at 0");
        due("{link A\n}", "2 at 0");
        due("{link A\ny}", "2 at 0");
        due("{link A y\n}", "2 at 0");
        due("{link A y\nz}", "2 at 0");
    }

    private static void linkLeadsFromEntry() {
        Desk.sentence("4 to what a LINK leads (NONE; of others)");
        Desk d = Desk.small();
        d.type("B", 0);
        d.member("n", 2, false);
        d.comment(1, "{link n}");
        d.comment(3, "{link n} {link m} {link B.m} {link B.o} n {code n}");
        Desk.due("not downwards", d.x.piece(1, 0, 4), -1);
        int[] want = {3, 1, 1, -1, -1, -1};
        for (int i = 0; i < want.length; i++) {
            Desk.due("piece " + i, d.x.piece(3, i, 4), want[i]);
        }
        d.member("o", 0, false);
        Desk.due("one that has come since", d.x.piece(3, 3, 4), 4);
    }

    private static void inheritAlone() {
        Desk.sentence("A PARAGRAPH may be \"{inherit}\" alone (it has no PIECES)");
        for (String text : new String[] {"{inherit}", "  {inherit}  ", "{inherit}\n", "{inherit}\n  ", "\n{inherit}",
            "{inherit}\n\n"}) {
            due(text, "1 blocks");
            Desk d = Desk.small();
            d.comment(1, text);
            Desk.due("sort of '" + text + "'", d.x.block(1, 0, 0), 7);
            Desk.due("place in '" + text + "'", d.x.block(1, 0, 3), text.indexOf('{'));
            Desk.due("pieces of its block in '" + text + "'", d.x.block(1, 0, 2), 0);
            Desk.due("pieces of '" + text + "'", d.x.told(1, 7), 0);
            Desk.due("no piece of '" + text + "'", d.x.piece(1, 0, 0), -9);
        }
        due("x\n\n{inherit}\n\ny", "3 blocks");
        due("- x\n\n{inherit}\n- y", "3 blocks");
        due("{inherit}\n@return", "2 blocks");
        due("\n".repeat(591) + "{inherit}", "1 blocks");
    }

    private static void inheritNotAlone() {
        Desk.sentence("\"{inherit}\" alone: 2 at a { with which none of these begins");
        due("{inherit}x", "2 at 0");
        due("{inherit} x", "2 at 0");
        due("{inherit}\nx", "2 at 0");
        due("{inherit}\n  x", "2 at 0");
        due("{inherit}\n-x", "2 at 0");
        due("{inherit}\n{inherit}", "2 at 0");
        due("{inherit} {inherit}", "2 at 0");
        due("{inherit}{code x}", "2 at 0");
        due("x{inherit}", "2 at 1");
        due("x {inherit}", "2 at 2");
        due("x\n{inherit}", "2 at 2");
        due("- {inherit}", "2 at 2");
        due("- x\n{inherit}", "2 at 4");
        due("@return {inherit}", "2 at 8");
        due("@return\n{inherit}", "2 at 8");
        for (String wrong : new String[] {"{inherit", "{inherit }", "{ inherit}", "{Inherit}", "{inherits}", "{inherit x}",
            "{inheri}", "{inherit\n}"}) {
            due(wrong, "2 at 0");
        }
        due("{inherit}}", "2 at 0");
    }

    private static void inheritOfMembers() {
        Desk.sentence("\"{inherit}\" (in COMMENTS of MEMBERS)");
        Desk d = Desk.small();
        d.type("B", 0);
        Desk.due("of a member", d.read(1, "{inherit}"), "1 blocks");
        Desk.due("of a type", d.read(0, "{inherit}"), "2 at 0");
        Desk.due("of a type with a parent", d.read(2, "x\n\n {inherit}"), "2 at 4");
        Desk.due("of a type, twice", d.read(2, "{inherit}\n\n{inherit}"), "2 at 0");
    }

    private static void inheritTwice() {
        Desk.sentence("5: a second {inherit} (its {)");
        due("{inherit}\n\n{inherit}", "5 at 11");
        due("{inherit}\n\nx\n\n   {inherit}", "5 at 17");
        due("{inherit}\n- x\n\n{inherit}\n@return", "5 at 15");
        due("{inherit}\n\n{inherit}\n\n{inherit}", "5 at 11");
    }

    private static void closingBrace() {
        Desk.sentence("2 at a }");
        due("}", "2 at 0");
        due("x}", "2 at 1");
        due("x }", "2 at 2");
        due("x\n  }", "2 at 4");
        due("- }", "2 at 2");
        due("-}", "2 at 1");
        due("@return }", "2 at 8");
        due("{code x}}", "2 at 8");
        due("x".repeat(599) + "}", "2 at 599");
    }

    private static void openingBrace() {
        Desk.sentence("2 at a { with which none of these begins (whatever is not as told within)");
        due("{", "2 at 0");
        due("{}", "2 at 0");
        due("{{code x}}", "2 at 0");
        due("x{", "2 at 1");
        due("x {y}", "2 at 2");
        due("- {", "2 at 2");
        due("-{", "2 at 1");
        due("@return {", "2 at 8");
        due("{code x}{", "2 at 8");
        due("x".repeat(599) + "{", "2 at 599");
    }
}
