/** Promises 19 and 20: notes, note. */
public final class NotesTest {
    public static void main(String[] args) {
        untold();
        deadLinks();
        inherit();
        strangers();
        takenOver();
        many();
        latest();
        Desk.finish();
    }

    /** A (0) with m (1: parameters a, b; returns), B below it (2) with m (3: parameter b), n (4). */
    private static Desk desk() {
        Desk d = new Desk();
        d.type("A", -1);
        d.member("m", 0, true);
        d.parameter("a", 1);
        d.parameter("b", 1);
        d.type("B", 0);
        d.member("m", 2, true);
        d.parameter("b", 3);
        d.member("n", 2, false);
        return d;
    }

    private static void untold() {
        Desk d = desk();
        Desk.due("of a type", d.notes(0), "1:0");
        Desk.due("with parameters", d.notes(1), "1:0 6:0 6:1 7:0");
        Desk.due("of one below", d.notes(3), "1:0 6:0 7:0");
        Desk.due("without anything", d.notes(4), "1:0");
        d.comment(1, "");
        Desk.due("with an empty comment", d.notes(1), "6:0 6:1 7:0");
        Desk.due("with one that counts", d.notes(3), "6:0 7:0");
    }

    private static void deadLinks() {
        Desk d = desk();
        d.comment(4, "{link Gone} {link A}\n- {link n}{link x y}\n@throws C {link m}{link no}\n@see B.x\n@throws B");
        Desk.due("dead links", d.notes(4), "2:0 2:31 2:42 2:60 2:70");
        d.type("C", -1);
        Desk.due("one has come", d.notes(4), "2:0 2:31 2:60 2:70");
        d.comment(1, "{link n}");
        Desk.due("from the entry itself", d.notes(1), "2:0 6:0 6:1 7:0");
        Desk.due("not those of above", d.notes(3), "6:0 7:0");
    }

    private static void inherit() {
        Desk d = desk();
        d.comment(4, "x\n\n {inherit}");
        Desk.due("nothing above", d.notes(4), "3:4");
        d.comment(3, "{inherit}\n@param b\n@return");
        Desk.due("no comment above", d.notes(3), "3:0");
        d.comment(1, "");
        Desk.due("one above", d.notes(3), "");
    }

    private static void strangers() {
        Desk d = desk();
        d.comment(0, " @param a\n@return x\n@param b");
        Desk.due("of a type", d.notes(0), "4:1 4:20 5:10");
        d.comment(4, "@return\n@param n\n@see Gone");
        Desk.due("of a member", d.notes(4), "2:17 4:8 5:0");
        d.comment(1, "@param B\n@param b\n@return\n@param a");
        Desk.due("another case", d.notes(1), "4:0");
    }

    private static void takenOver() {
        Desk d = desk();
        d.comment(1, "@param b\n@return");
        d.comment(3, "x");
        Desk.due("told above", d.notes(3), "");
        Desk.due("told itself", d.notes(1), "6:0");
        d.comment(1, "@param a");
        Desk.due("no more", d.notes(3), "6:0 7:0");
        d.type("C", 2);
        d.member("m", 5, true);
        d.parameter("z", 6);
        d.parameter("a", 6);
        Desk.due("two above", d.notes(6), "6:0 7:0");
        d.x.bare(1);
        Desk.due("as it is now", d.notes(6), "6:0 6:1 7:0");
    }

    private static void many() {
        Desk d = desk();
        d.comment(4, "{link C}".repeat(75));
        Desk.due("many", d.x.notes(4), 75);
        Desk.due("the last", d.x.note(74, 1), 592);
    }

    private static void latest() {
        Desk d = desk();
        Desk.due("no notes yet", d.x.note(0, 0), DocFormat.BAD);
        d.x.notes(1);
        Desk.due("no entry", d.x.notes(5), DocFormat.BAD);
        Desk.due("no entry", d.x.notes(-1), DocFormat.BAD);
        Desk.due("of the latest that was not BAD", d.x.note(3, 0), 7);
        d.comment(1, "@return\n@param a");
        Desk.due("as it was then", d.x.note(1, 0), 6);
        Desk.due("behind the last", d.x.note(4, 0), DocFormat.BAD);
        Desk.due("ahead of the first", d.x.note(-1, 0), DocFormat.BAD);
        Desk.due("what 2", d.x.note(0, 2), DocFormat.BAD);
        Desk.due("what -1", d.x.note(0, -1), DocFormat.BAD);
        Desk.due("now", d.notes(1), "6:1");
    }
}
