/** The bounds of LINES, BLOCKS, ITEMS and TAGS (part 2 of the Terms), a sentence each: promises 7, 8 and 11. */
public final class LinesBoundsTest {
    public static void main(String[] args) {
        linesEnd();
        oddBytes();
        oddBytesFirstOfAll();
        firstPlaceCounts();
        leastCodeAtOnePlace();
        the25thBlock();
        textIsNoBlockMore();
        the121stPiece();
        namesAreNoPieces();
        emptyLines();
        itemSign();
        depthIsHalf();
        oddBlanks();
        depthAbove2();
        depthMoreThanOneAbove();
        depthWithoutItemAhead();
        blockBegins();
        blockGoesOn();
        behindTag();
        tagWords();
        tagWordEnds();
        paramName();
        throwsAndSeeReference();
        sinceNumber();
        atTheLinesEnd();
        piecesOfTags();
        seeAndSinceHaveNone();
        returnAndSinceTwice();
        paramTwice();
        Desk.finish();
    }

    private static void due(String text, String want) {
        Desk.due("'" + text.replace("\n", "\\n") + "'", Desk.small().read(1, text), want);
    }

    /** Each block as "sort/depth/pieces/place". */
    private static void blocks(String text, String want) {
        Desk d = Desk.small();
        int n = d.comment(1, text);
        StringBuilder all = new StringBuilder();
        for (int i = 0; i < n; i++) {
            all.append(i == 0 ? "" : " ").append(d.x.block(1, i, 0)).append('/').append(d.x.block(1, i, 1)).append('/')
                    .append(d.x.block(1, i, 2)).append('/').append(d.x.block(1, i, 3));
        }
        Desk.due("'" + text.replace("\n", "\\n") + "'", n < 0 ? Integer.toString(n) : all.toString(), want);
    }

    private static void linesEnd() {
        Desk.sentence("by LINES (a byte 10 ends one; the last may be without)");
        blocks("", "");
        blocks("\n", "");
        blocks("a", "0/0/1/0");
        blocks("a\n", "0/0/1/0");
        blocks("a\n\n", "0/0/1/0");
        blocks("a\nb", "0/0/2/0");
        blocks("a\nb\n", "0/0/2/0");
        blocks("a\n\nb", "0/0/1/0 0/0/1/3");
        blocks("a\n\nb\n\n\n", "0/0/1/0 0/0/1/3");
        blocks("-", "1/0/0/0");
        blocks("-\n", "1/0/0/0");
        blocks("@return", "3/0/0/0");
        blocks("@return\n", "3/0/0/0");
        blocks("\n".repeat(599) + "x", "0/0/1/599");
    }

    private static void oddBytes() {
        Desk.sentence("1 the first byte that is not 10, 32 .. 126");
        for (int b = 0; b < 256; b++) {
            String text = "x" + (char) b;
            boolean odd = b != 10 && (b < 32 || b > 126);
            due(text, odd ? "1 at 1" : b == '{' || b == '}' ? "2 at 1" : "1 blocks");
        }
        due("\u001f", "1 at 0");
        due("x".repeat(599) + "\u007f", "1 at 599");
        due("x".repeat(598) + "\u007f\u0000", "1 at 598");
        due("x\n\n\u0080\u001f", "1 at 3");
    }

    private static void oddBytesFirstOfAll() {
        Desk.sentence("1 (looked at first of all)");
        due("}\t", "1 at 1");
        due(" - a\n\t", "1 at 5");
        due("-\n".repeat(25) + "\u00ff", "1 at 50");
        due("x ".repeat(121) + "\u00ff", "1 at 242");
        due("@return\n@return\n\u0000", "1 at 16");
        due("@other \u007f", "1 at 7");
        due("{code \u001f}", "1 at 6");
    }

    private static void firstPlaceCounts() {
        Desk.sentence("Of others the first place counts");
        due("a } }", "2 at 2");
        due("}\n - a", "2 at 0");
        due("- a\n - b }", "3 at 5");
        due("- }\n - b", "2 at 2");
        due("-\n".repeat(24) + "\nx }", "4 at 49");
        due("-\n".repeat(23) + "- }\n- x", "2 at 48");
        due("x ".repeat(120) + "y }", "4 at 240");
        due("x ".repeat(119) + "} y y", "2 at 238");
        due("@return\n@return }", "5 at 8");
        due("@return }\n@return", "2 at 8");
        due("@since 1\n@since x", "5 at 9");
        due("@param a\n@param a\n@other", "5 at 9");
        due("@other\n@return\n@return", "2 at 0");
        due("{inherit}\n\n{inherit}\n\n}", "5 at 11");
    }

    private static void leastCodeAtOnePlace() {
        Desk.sentence("at one place the least code");
        String tag24 = "@return\n" + "@see A\n".repeat(23);
        due("@return\n - a", "2 at 9");
        due(tag24 + "- a", "2 at 169");
        due(tag24 + " - a", "2 at 170");
        due(tag24 + "\nx", "2 at 170");
        due(tag24 + "@other", "2 at 169");
        due(tag24 + "@return", "4 at 169");
        due("@since 1\n" + "@see A\n".repeat(23) + "@since 1", "4 at 170");
        due("@param a\n" + "@see A\n".repeat(23) + "@param a", "4 at 170");
        due("-\n".repeat(24) + " - a", "3 at 49");
        due("-\n".repeat(24) + "      - a", "3 at 54");
        due("-\n".repeat(24) + "\n}", "2 at 49");
        due("-\n".repeat(24) + "\n{code }", "2 at 49");
        due("{inherit}\n" + "-\n".repeat(23) + "\n{inherit}", "4 at 57");
        due("{inherit}\n" + "-\n".repeat(23) + "\n{inherit} x", "2 at 57");
        due("{inherit}\n\n{inherit} x", "2 at 11");
        due("x ".repeat(120) + "}", "2 at 240");
        due("x ".repeat(120) + "{link A }", "2 at 240");
        due("x ".repeat(120) + "{code }", "2 at 240");
    }

    private static void the25thBlock() {
        Desk.sentence("4 too many: the 25th BLOCK (its first byte)");
        String[] last = {"- x", "@param a", "@return x", "@throws A", "@see A", "@since 1"};
        for (String block : last) {
            due("-\n".repeat(23) + block, "24 blocks");
            due("-\n".repeat(24) + block, "4 at 48");
            due("-\n".repeat(26) + block, "4 at 48");
        }
        for (String block : new String[] {"x", "{inherit}"}) {
            due("-\n".repeat(23) + "\n" + block, "24 blocks");
            due("-\n".repeat(24) + "\n" + block, "4 at 49");
            due("-\n".repeat(24) + "\n  " + block, "4 at 51");
        }
        due("-\n".repeat(24) + "  - x", "4 at 50");
        due("-\n".repeat(24) + "  @return", "4 at 50");
        due("x\n\n".repeat(24), "24 blocks");
        due("x\n\n".repeat(25), "4 at 72");
        due("@see A\n".repeat(24), "24 blocks");
        due("@see A\n".repeat(25), "4 at 168");
        due("-\n".repeat(300), "4 at 48");
        due("x\n\n".repeat(200), "4 at 72");
    }

    private static void textIsNoBlockMore() {
        Desk.sentence("the 25th BLOCK: TEXT LINES that go on and EMPTY LINES begin none");
        due("-\n".repeat(24) + "x\ny\n\n  \n", "24 blocks");
        due("x\n".repeat(120), "1 blocks");
        due("\n".repeat(600), "0 blocks");
        due(" ".repeat(600), "0 blocks");
    }

    private static void the121stPiece() {
        Desk.sentence("4 too many: the 121st PIECE (its first byte)");
        for (String piece : new String[] {"y", "{code y}", "{link A y}"}) {
            due("x ".repeat(119) + piece, "1 blocks");
            due("x ".repeat(120) + piece, "4 at 240");
            due("x ".repeat(120) + "  " + piece, "4 at 242");
            due("x ".repeat(120) + "\n" + piece + " " + piece, "4 at 241");
            due("x ".repeat(119) + piece + "\n@return " + piece, "4 at " + (238 + piece.length() + 9));
        }
        due("x ".repeat(119) + "y{code z}", "4 at 239");
        due("x ".repeat(118) + "y{code z}", "1 blocks");
        due(("-" + " x".repeat(5) + "\n").repeat(24), "24 blocks");
        due(("-" + " x".repeat(5) + "\n").repeat(23) + "- x x x x x\nx", "4 at 288");
        due("x{code y}".repeat(60), "1 blocks");
        due("x{code y}".repeat(60) + "z", "4 at 540");
    }

    private static void namesAreNoPieces() {
        Desk.sentence("the 121st PIECE: what a TAG is of and {inherit} are none");
        due("x ".repeat(120) + "\n@param a\n@throws A\n@return\n@see A\n@since 1", "6 blocks");
        due("x ".repeat(120) + "\n\n{inherit}\n-", "3 blocks");
        Desk d = Desk.small();
        d.comment(1, "x ".repeat(120) + "\n@param a\n@throws A\n@return\n@see A\n@since 1");
        Desk.due("pieces", d.x.told(1, 7), 120);
    }

    private static void emptyLines() {
        Desk.sentence("The first byte of a LINE that is no blank tells its sort: none: EMPTY");
        blocks("a\n \nb", "0/0/1/0 0/0/1/4");
        blocks("a\n" + " ".repeat(50) + "\nb", "0/0/1/0 0/0/1/53");
        blocks("   \n\n a", "0/0/1/6");
        blocks(" a\n b", "0/0/2/1");
        blocks("   - a", "-13");
        blocks("    @return", "3/0/0/4");
    }

    private static void itemSign() {
        Desk.sentence("\"-\" with a blank (or the end of the LINE) behind it: ITEM");
        blocks("-", "1/0/0/0");
        blocks("- ", "1/0/0/0");
        blocks("-\n-", "1/0/0/0 1/0/0/2");
        blocks("- -", "1/0/1/0");
        blocks("--", "0/0/1/0");
        blocks("-- a", "0/0/2/0");
        blocks("-a", "0/0/1/0");
        blocks("-{code a}", "0/0/2/0");
        blocks("-@", "0/0/1/0");
        blocks("a -", "0/0/2/0");
        blocks("a\n-", "0/0/1/0 1/0/0/2");
        blocks("a\n-b", "0/0/2/0");
        blocks("\n".repeat(599) + "-", "1/0/0/599");
    }

    private static void depthIsHalf() {
        Desk.sentence("ITEM, whose DEPTH is half of the blanks ahead");
        blocks("-\n  -\n    -", "1/0/0/0 1/1/0/4 1/2/0/10");
        blocks("-\n  -\n    -\n    -\n  -\n-\n  -", "1/0/0/0 1/1/0/4 1/2/0/10 1/2/0/16 1/1/0/20 1/0/0/22 1/1/0/26");
        blocks("-\n  -\n    -\n-", "1/0/0/0 1/1/0/4 1/2/0/10 1/0/0/12");
    }

    private static void oddBlanks() {
        Desk.sentence("3: their number is odd");
        for (int blanks = 1; blanks < 12; blanks += 2) {
            String ahead = " ".repeat(blanks);
            due(ahead + "-", "3 at " + blanks);
            due("-\n  -\n    -\n" + ahead + "- x", "3 at " + (12 + blanks));
        }
    }

    private static void depthAbove2() {
        Desk.sentence("3: DEPTH above 2");
        due("-\n  -\n    -\n    -", "4 blocks");
        due("-\n  -\n    -\n      -", "3 at 18");
        due("-\n  -\n    -\n        -", "3 at 20");
        due(" ".repeat(599) + "-", "3 at 599");
        due(" ".repeat(598) + "-", "3 at 598");
    }

    private static void depthMoreThanOneAbove() {
        Desk.sentence("3: more than one above that of the ITEM directly ahead");
        due("-\n  -", "2 blocks");
        due("-\n    -", "3 at 6");
        due("-\n  -\n-\n    -", "3 at 12");
        due("-\n  -\n-\n  -\n    -", "5 blocks");
        due("- a\nb\n c\n  - d", "2 blocks");
        due("- a\nb\n    - d", "3 at 10");
    }

    private static void depthWithoutItemAhead() {
        Desk.sentence("3: with no EMPTY LINE between; without such it is 0");
        for (String ahead : new String[] {"", "x\n", "-\n\n", "-\n   \n", "-\n  -\n\n", "- x\ny\n\n", "-\n\nx\n",
            "{inherit}\n", "{inherit}\n\n"}) {
            int at = ahead.length();
            Desk d = Desk.small();
            int blocks = d.comment(1, ahead);
            due(ahead + "- z", blocks + 1 + " blocks");
            due(ahead + " - z", "3 at " + (at + 1));
            due(ahead + "  - z", "3 at " + (at + 2));
            due(ahead + "    - z", "3 at " + (at + 4));
            due(ahead + "- z\n  - z", blocks + 2 + " blocks");
        }
    }

    private static void blockBegins() {
        Desk.sentence("A BLOCK begins with each ITEM, each TAG, and with TEXT behind an EMPTY LINE or as the first LINE");
        blocks("a\n- b\n- c\n@return\n@see A", "0/0/1/0 1/0/1/2 1/0/1/6 3/0/0/10 5/0/0/18");
        blocks("- b\n\nc\n\n- d", "1/0/1/0 0/0/1/5 1/0/1/8");
        blocks("\na", "0/0/1/1");
        blocks("{inherit}\n\na", "7/0/0/0 0/0/1/11");
    }

    private static void blockGoesOn() {
        Desk.sentence("it goes on with the TEXT LINES behind it");
        blocks("a\nb\n   c\nd", "0/0/4/0");
        blocks("- a\nb\n   c\n-d", "1/0/4/0");
        blocks("-\nb", "1/0/1/0");
        blocks("@return\nb\n c", "3/0/2/0");
        blocks("@param a\nb\n c", "2/0/2/0");
        blocks("@throws A\nb\n c", "4/0/2/0");
    }

    private static void behindTag() {
        Desk.sentence("When a TAG has come, TEXT behind an EMPTY LINE and ITEMS cannot stand (2, at that first byte)");
        for (String tag : new String[] {"@param a", "@return", "@throws A", "@see A", "@since 1"}) {
            int at = tag.length() + 1;
            due(tag + "\n\nx", "2 at " + (at + 1));
            due(tag + "\n\n   x", "2 at " + (at + 4));
            due(tag + "\n\n{inherit}", "2 at " + (at + 1));
            due(tag + "\n- x", "2 at " + at);
            due(tag + "\n-", "2 at " + at);
            due(tag + "\n  - x", "2 at " + (at + 2));
            due(tag + "\n\n- x", "2 at " + (at + 1));
            due(tag + "\n\n\n  @throws m", "2 blocks");
            due("- x\n\ny\n" + tag, "3 blocks");
        }
        due("@param a\nx\n\ny", "2 at 12");
        due("@param a\nx\n- y", "2 at 11");
    }

    private static void tagWords() {
        Desk.sentence("are the word (2 at the @: another one)");
        String[] words = {"@param a", "@return", "@throws a", "@see a", "@since 1"};
        for (String tag : words) {
            due(tag, "1 blocks");
        }
        String[] others = {"@", "@ ", "@ return", "@para a", "@params a", "@Param a", "@retur", "@returns", "@RETURN",
            "@throw A", "@throwss A", "@se A", "@sees A", "@sinc 1", "@since1", "@inherit", "@link A", "@@return",
            "@return.", "@see-", "@param{code a}", "@return{", "@seeA"};
        for (String tag : others) {
            due(tag, "2 at 0");
            due("x\n  " + tag, "2 at 4");
        }
    }

    private static void tagWordEnds() {
        Desk.sentence("The bytes behind the @ up to the next blank, or the LINE's end");
        blocks("@return", "3/0/0/0");
        blocks("@return\nx", "3/0/1/0");
        blocks("@return x", "3/0/1/0");
        blocks("@return    ", "3/0/0/0");
        blocks("@return    x", "3/0/1/0");
        blocks("\n".repeat(593) + "@return", "3/0/0/593");
        due("@param\na", "2 at 6");
    }

    private static void paramName() {
        Desk.sentence("@param NAME (any) (2 where it begins, if it is none such)");
        for (String name : new String[] {"a", "z", "A", "Z", "a9", "Abcdefghij", "abcdefghi0"}) {
            due("@param " + name, "1 blocks");
            due("@param " + name + " x", "1 blocks");
            due("@param    " + name + "  ", "1 blocks");
        }
        for (String name : new String[] {"9", "0a", "abcdefghijk", "a.b", "a{code", "a-", "-", "@a", "a}", "[", "`", "_a"}) {
            due("@param " + name, "2 at 7");
            due("@param    " + name + " x", "2 at 10");
        }
    }

    private static void throwsAndSeeReference() {
        Desk.sentence("@throws REFERENCE, @see REFERENCE (2 where it begins, if it is none such)");
        String[] fine = {"a", "A", "a.b", "A.B", "Abcdefghij", "Abcdefghij.abcdefghij", "Z9.z9"};
        String[] wrong = {"9", ".", "A.", ".a", "A..b", "A.b.c", "A.9", "Abcdefghijk", "Abcdefghijk.a", "A.abcdefghijk",
            "{link", "A}", "A,", "A.b."};
        for (String reference : fine) {
            due("@throws " + reference, "1 blocks");
            due("@throws   " + reference + " x", "1 blocks");
            due("@see " + reference, "1 blocks");
            due("@see   " + reference + "  ", "1 blocks");
        }
        for (String reference : wrong) {
            due("@throws " + reference, "2 at 8");
            due("@throws   " + reference + " x", "2 at 10");
            due("@see " + reference, "2 at 5");
            due("@see   " + reference, "2 at 7");
        }
    }

    private static void sinceNumber() {
        Desk.sentence("@since NUMBER (1 to 4 digits)");
        for (String number : new String[] {"0", "9", "00", "123", "9999", "0000"}) {
            due("@since " + number, "1 blocks");
            due("@since   " + number + "  ", "1 blocks");
        }
        for (String number : new String[] {"00000", "12345", "123456789", "/", ":", "1/", "1:", "-1", "+1", "1.0", "a", "1a",
            "{code", "1}"}) {
            due("@since " + number, "2 at 7");
            due("@since   " + number, "2 at 9");
        }
    }

    private static void atTheLinesEnd() {
        Desk.sentence("2 where it begins, or at the LINE's end, if it is none such");
        for (String word : new String[] {"@param", "@throws", "@see", "@since"}) {
            int at = word.length();
            due(word, "2 at " + at);
            due(word + " ", "2 at " + (at + 1));
            due(word + "    ", "2 at " + (at + 4));
            due(word + "\n", "2 at " + at);
            due(word + "  \n1", "2 at " + (at + 2));
            due(word + "\na", "2 at " + at);
            due("\n".repeat(600 - at) + word, "2 at 600");
            due("\n".repeat(600 - at - 1) + word + " ", "2 at 600");
        }
    }

    private static void piecesOfTags() {
        Desk.sentence("What is behind it in its BLOCK are its PIECES");
        blocks("@param a b", "2/0/1/0");
        blocks("@param a", "2/0/0/0");
        blocks("@throws A b {code c}{link m}\nd", "4/0/4/0");
        blocks("@return a @return - {code b}", "3/0/4/0");
        due("@param a }", "2 at 9");
        due("@return {", "2 at 8");
    }

    private static void seeAndSinceHaveNone() {
        Desk.sentence("@see, @since have none (2, at the first byte of what is there)");
        for (String tag : new String[] {"@see A", "@since 1"}) {
            int at = tag.length();
            due(tag + "    ", "1 blocks");
            due(tag + "\n   \n", "1 blocks");
            due(tag + "\n@return x", "2 blocks");
            for (String piece : new String[] {"x", "{code x}", "{link A}", "}", "-x", "@"}) {
                due(tag + " " + piece, "2 at " + (at + 1));
                due(tag + "   " + piece, "2 at " + (at + 3));
            }
            due(tag + "\nx", "2 at " + (at + 1));
            due(tag + "\n  x", "2 at " + (at + 3));
            due(tag + "\n{code x}", "2 at " + (at + 1));
        }
    }

    private static void returnAndSinceTwice() {
        Desk.sentence("5: @return, @since twice (its @)");
        due("@return\n@return", "5 at 8");
        due("@return x\n\n  @return", "5 at 13");
        due("@return\n@see A\n@return x", "5 at 15");
        due("@since 1\n@since 2", "5 at 9");
        due("@since 1\n  @since", "5 at 11");
        due("@return\n@since 1", "2 blocks");
        due("@see A\n@see A\n@throws A\n@throws A", "4 blocks");
    }

    private static void paramTwice() {
        Desk.sentence("5: @param with the same NAME (its @)");
        due("@param a\n@param b\n@param A\n@param aa", "4 blocks");
        due("@param a\n@param b\n@param a", "5 at 18");
        due("@param a\n@param b\n  @param b x", "5 at 20");
        due("@param abcdefghi1\n@param abcdefghi2", "2 blocks");
        due("@param abcdefghi1\n@param abcdefghi1", "5 at 18");
    }
}
