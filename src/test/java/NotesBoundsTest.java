/** The bounds of NOTES (part 4 of the Terms), a sentence each: promises 19 and 20. */
public final class NotesBoundsTest {
    private static final int BAD = DocFormat.BAD;
    private static final int[] FAR = {Integer.MIN_VALUE, -10, -2, 40, 600, Integer.MAX_VALUE};

    public static void main(String[] args) {
        noCommentCounts();
        leadsToNothing();
        leadsToNothingOfOwnAlone();
        inheritOfNothing();
        strangeParam();
        strangeReturn();
        untoldParameter();
        untoldReturn();
        inThisOrder();
        most();
        none();
        asItIsNow();
        notesIsBad();
        ofTheLatest();
        noteIsBad();
        Desk.finish();
    }

    /** A (0) with m (1), B below it (2) with m (3), C below that (4) with m (5); each returns, has a and b. */
    private static Desk three() {
        Desk d = new Desk();
        for (int i = 0; i < 3; i++) {
            d.type("" + (char) ('A' + i), 2 * i - 2 < 0 ? DocFormat.NONE : 2 * i - 2);
            d.member("m", 2 * i, true);
            d.parameter("a", 2 * i + 1);
            d.parameter("b", 2 * i + 1);
        }
        return d;
    }

    private static void noCommentCounts() {
        Desk.sentence("1 no COMMENT COUNTS");
        Desk d = three();
        Desk.due("type", d.notes(0), "1:0");
        Desk.due("member", d.notes(5), "1:0 6:0 6:1 7:0");
        d.comment(1, "");
        Desk.due("one far above counts", d.notes(5), "6:0 6:1 7:0");
        d.x.bare(1);
        d.comment(5, "");
        Desk.due("its own, which is empty, counts", d.notes(5), "6:0 6:1 7:0");
        Desk.due("one below does not count", d.notes(3), "1:0 6:0 6:1 7:0");
        d.comment(0, "");
        Desk.due("that of its type does not count", d.notes(1), "1:0 6:0 6:1 7:0");
        Desk.due("that of a parent does not count", d.notes(2), "1:0");
        Desk.due("type with its own", d.notes(0), "");
    }

    private static void leadsToNothing() {
        Desk.sentence("2 a LINK, @throws, @see that leads to nothing (for each, as they stand; ITS NUMBER: its place)");
        Desk d = three();
        d.comment(0, "{link D}{link D} {link A}\n- {link x y}\n@see D\n  @throws B.x z{link m.m}\n@see D\n@see B.m");
        Desk.due("all", d.notes(0), "2:0 2:8 2:28 2:39 2:48 2:61 2:72");
        d.comment(0, "{link A} {link m} {link B.m}\n@see C\n@throws m");
        Desk.due("none", d.notes(0), "");
        d.comment(0, "{link D}\n@param D\n{code {link E}}");
        Desk.due("no link otherwise", d.notes(0), "2:0 4:9");
    }

    private static void leadsToNothingOfOwnAlone() {
        Desk.sentence("Of its own COMMENT: 2");
        Desk d = three();
        d.comment(1, "{link D}\n@param a\n@param b\n@return");
        Desk.due("its own", d.notes(1), "2:0");
        Desk.due("one that takes it over", d.notes(3), "");
        d.comment(3, "{inherit}");
        Desk.due("one that has it by {inherit}", d.notes(3), "");
    }

    private static void inheritOfNothing() {
        Desk.sentence("3 {inherit} with no COMMENT that counts ABOVE (its place)");
        Desk d = three();
        String tags = "\n@param a\n@param b\n@return";
        d.comment(1, "{inherit}" + tags);
        Desk.due("nothing above", d.notes(1), "3:0");
        d.x.bare(1);
        d.comment(5, "x\n\n  {inherit}" + tags);
        Desk.due("one above, without a comment", d.notes(5), "3:5");
        d.comment(1, "");
        Desk.due("far above is one, empty", d.notes(5), "");
        d.x.bare(1);
        d.comment(3, "{inherit}" + tags);
        Desk.due("above is one that inherits nothing", d.notes(5), "");
        Desk.due("which itself has none above", d.notes(3), "3:0");
        d.x.bare(3);
        d.comment(0, "x");
        d.comment(2, "x");
        Desk.due("those of types do not count", d.notes(5), "3:5");
    }

    private static void strangeParam() {
        Desk.sentence("4 a @param that is none of its PARAMETERS (of a TYPE always; its place)");
        Desk d = three();
        d.comment(1, "@param a\n@param b\n@return");
        Desk.due("its own", d.notes(1), "");
        d.comment(1, "@param A\n@param a\n@param aa\n  @param c\n@param b\n@return");
        Desk.due("others", d.notes(1), "4:0 4:18 4:30");
        d.comment(0, "@param a\n@param m");
        Desk.due("of a type", d.notes(0), "4:0 4:9");
        d.parameter("c", 1);
        Desk.due("one has come", d.notes(1), "4:0 4:18");
        d.comment(3, "@param c");
        Desk.due("one of the member above", d.notes(3), "4:0");
    }

    private static void strangeReturn() {
        Desk.sentence("5 a @return, though it RETURNS nothing (of a TYPE always; its place)");
        Desk d = three();
        d.member("n", 0, false);
        d.comment(6, "x\n @return");
        Desk.due("nothing", d.notes(6), "5:3");
        d.comment(6, "x");
        Desk.due("nothing, and not told", d.notes(6), "");
        d.comment(0, "@return x");
        Desk.due("of a type", d.notes(0), "5:0");
        d.comment(1, "@return\n@param a\n@param b");
        Desk.due("something", d.notes(1), "");
        d.type("D", 0);
        d.member("m", 7, false);
        Desk.due("told above alone", d.notes(8), "");
    }

    private static void untoldParameter() {
        Desk.sentence("6 a PARAMETER without @param in its own COMMENT and those of all that are ABOVE it (the PARAMETER's number; each)");
        Desk d = new Desk();
        d.type("A", DocFormat.NONE);
        d.member("m", 0, false);
        d.comment(1, "x");
        Desk.due("no parameters", d.notes(1), "");
        String[] names = {"p", "q", "r", "s"};
        String want = "";
        for (int i = 0; i < 4; i++) {
            d.parameter(names[i], 1);
            want += (i == 0 ? "" : " ") + "6:" + i;
            Desk.due("parameters", d.notes(1), want);
        }
        d.comment(1, "@param p\n@param s");
        Desk.due("first and last told", d.notes(1), "6:1 6:2");
        d.comment(1, "@param s\n@param r\n@param q\n@param p");
        Desk.due("all told", d.notes(1), "");

        Desk t = three();
        t.comment(1, "@param a\n@return");
        t.comment(3, "@param b");
        Desk.due("told above and far above", t.notes(5), "");
        Desk.due("told by itself and above", t.notes(3), "");
        Desk.due("not told by one below", t.notes(1), "6:1");
        t.comment(5, "own");
        Desk.due("with an own comment", t.notes(5), "");
        t.x.bare(3);
        Desk.due("over one without", t.notes(5), "6:1");
    }

    private static void untoldReturn() {
        Desk.sentence("7 it RETURNS something, without @return likewise (0)");
        Desk d = three();
        String params = "@param a\n@param b";
        d.comment(5, params);
        Desk.due("nowhere", d.notes(5), "7:0");
        d.comment(1, "@return");
        Desk.due("far above", d.notes(5), "");
        d.x.bare(1);
        d.comment(3, "x\n@return y");
        Desk.due("above", d.notes(5), "");
        d.comment(3, "x");
        d.comment(5, params + "\n@return");
        Desk.due("itself", d.notes(5), "");
        Desk.due("not by one below", d.notes(3), "6:0 6:1 7:0");
        d.comment(2, "@return");
        Desk.due("not by its type", d.notes(3), "6:0 6:1 7:0");
        d.member("n", 0, false);
        d.comment(6, "x");
        Desk.due("returns nothing", d.notes(6), "");
    }

    private static void inThisOrder() {
        Desk.sentence("NOTES of an ENTRY are of these sorts, in this order");
        Desk d = new Desk();
        d.type("A", DocFormat.NONE);
        d.member("m", 0, false);
        d.parameter("a", 1);
        d.comment(1, "{inherit}\n@return {link X}\n@param z\n@see X");
        Desk.due("2 to 6", d.notes(1), "2:18 2:36 3:0 4:27 5:10 6:0");
        d.member("n", 0, true);
        d.parameter("a", 2);
        d.comment(2, "{inherit}\n@param z {link X}");
        Desk.due("2, 3, 4, 6, 7", d.notes(2), "2:19 3:0 4:10 6:0 7:0");
    }

    private static void most() {
        Desk.sentence("notes: how many, as many as there can be");
        Desk d = new Desk();
        d.type("A", DocFormat.NONE);
        d.member("m", 0, false);
        d.comment(0, "{link X}".repeat(75));
        Desk.due("links", d.x.notes(0), 75);
        Desk.due("the last", d.x.note(74, 1), 592);
        Desk.due("behind the last", d.x.note(75, 0), BAD);
        StringBuilder params = new StringBuilder();
        for (int i = 0; i < 24; i++) {
            params.append("@param p").append(i).append('\n');
        }
        d.comment(0, params.toString());
        Desk.due("params", d.x.notes(0), 24);
        Desk.due("the last", d.x.note(23, 0), 4);
        d.comment(1, "@see X\n".repeat(23) + "@throws X" + " {link X}".repeat(47));
        Desk.due("tags and links", d.x.notes(1), 24 + 47);
    }

    private static void none() {
        Desk.sentence("notes: how many: 0");
        Desk d = three();
        d.comment(0, "");
        Desk.due("of a type", d.x.notes(0), 0);
        Desk.due("no first one", d.x.note(0, 0), BAD);
        Desk.due("no number of it", d.x.note(0, 1), BAD);
    }

    private static void asItIsNow() {
        Desk.sentence("NOTES of an ENTRY as it is now");
        Desk d = three();
        d.comment(0, "{link D} {link up}");
        Desk.due("before", d.notes(0), "2:0 2:9");
        d.type("D", DocFormat.NONE);
        Desk.due("a type has come", d.notes(0), "2:9");
        d.member("up", 0, false);
        Desk.due("a member has come", d.notes(0), "");
        d.x.bare(0);
        Desk.due("the comment has gone", d.notes(0), "1:0");
    }

    private static void notesIsBad() {
        Desk.sentence("notes: BAD");
        Desk d = three();
        d.x.notes(5);
        d.refused("notes of -1", BAD, 0, () -> d.x.notes(-1));
        d.refused("notes of 6", BAD, 0, () -> d.x.notes(6));
        for (int entry : FAR) {
            d.refused("notes of " + entry, BAD, 0, () -> d.x.notes(entry));
        }
        Desk.due("the last entry", d.x.notes(5), 4);
        Desk.due("without entries", new DocFormat().notes(0), BAD);
    }

    private static void ofTheLatest() {
        Desk.sentence("Of note i of the latest notes() that was not BAD");
        Desk d = three();
        Desk.due("before any", d.x.note(0, 0), BAD);
        d.x.notes(6);
        Desk.due("behind a BAD one alone", d.x.note(0, 0), BAD);
        d.x.notes(5);
        d.comment(5, "@param a\n@param b\n@return");
        d.x.page(5, 20, 0);
        d.x.notes(-1);
        int[][] want = {{1, 0}, {6, 0}, {6, 1}, {7, 0}};
        for (int i = 0; i < want.length; i++) {
            Desk.due("sort " + i, d.x.note(i, 0), want[i][0]);
            Desk.due("number " + i, d.x.note(i, 1), want[i][1]);
        }
        Desk.due("less", d.x.notes(0), 1);
        Desk.due("one of the earlier", d.x.note(1, 0), BAD);
        Desk.due("none", d.x.notes(5), 0);
        Desk.due("one of the earlier", d.x.note(0, 0), BAD);
    }

    private static void noteIsBad() {
        Desk.sentence("note: BAD");
        Desk d = three();
        d.x.notes(5);
        for (int what = 0; what < 2; what++) {
            int asked = what;
            d.refused("note -1", BAD, 0, () -> d.x.note(-1, asked));
            d.refused("note 4", BAD, 0, () -> d.x.note(4, asked));
            Desk.due("the last", d.x.note(3, what), what == 0 ? 7 : 0);
        }
        d.refused("what -1", BAD, 0, () -> d.x.note(0, -1));
        d.refused("what 2", BAD, 0, () -> d.x.note(0, 2));
        for (int far : FAR) {
            Desk.due("note " + far, d.x.note(far, 0), BAD);
            Desk.due("what " + far, d.x.note(0, far), BAD);
        }
    }
}
