/** The bounds of NAMES, ENTRIES and REFERENCES (part 1 of the Terms), a sentence each: promises 4, 5, 6, 10 and 13. */
public final class EntriesBoundsTest {
    private static final int NONE = DocFormat.NONE;
    private static final int BAD = DocFormat.BAD;
    private static final int FULL = DocFormat.FULL;
    private static final int[] FAR = {Integer.MIN_VALUE, -41, -2, 40, 41, Integer.MAX_VALUE};

    public static void main(String[] args) {
        firstByteOfNames();
        otherBytesOfNames();
        lengthOfNames();
        numberedFrom0();
        fortyTypes();
        fortyWithMembers();
        parentIsElder();
        memberHasType();
        fourParameters();
        parameterHasMember();
        unlikeTypes();
        unlikeMembers();
        unlikeParameters();
        tapeIsEmptyInAnyCase();
        badAheadOfFull();
        returnsOrNot();
        toldOfOthers();
        aboveTheNearest();
        aboveOverManyTypes();
        aboveTypeIsNothing();
        commentThatCounts();
        toldIsBad();
        referenceToType();
        referenceToMember();
        referenceWithType();
        referenceElse();
        referenceLengths();
        leadsEmptiesTape();
        leadsIsBad();
        Desk.finish();
    }

    private static boolean isUpper(int b) {
        return b >= 65 && b <= 90;
    }

    private static boolean isLower(int b) {
        return b >= 97 && b <= 122;
    }

    private static boolean isDigit(int b) {
        return b >= 48 && b <= 57;
    }

    private static void firstByteOfNames() {
        Desk.sentence("A NAME is a letter ..; A TYPE (A .. Z), a MEMBER (a .. z), PARAMETERS (a .. z)");
        for (int b = 0; b < 256; b++) {
            String name = Character.toString((char) b);
            Desk d = Desk.small();
            Desk.due("parameter of byte " + b, d.parameter(name, 1), isLower(b) ? 1 : BAD);
            boolean old = b == 'm' || b == 'A';
            Desk.due("member of byte " + b, d.member(name, 0, true), isLower(b) && !old ? 2 : BAD);
            int next = d.x.count(0);
            Desk.due("type of byte " + b, d.type(name, NONE), isUpper(b) && !old ? next : BAD);
        }
    }

    private static void otherBytesOfNames() {
        Desk.sentence("then letters and digits");
        for (int b = 0; b < 256; b++) {
            boolean fine = isUpper(b) || isLower(b) || isDigit(b);
            String behind = Character.toString((char) b);
            String last = "bcdefghi" + behind;
            Desk d = Desk.small();
            Desk.due("parameter, byte " + b, d.parameter("x" + behind, 1), fine ? 1 : BAD);
            Desk.due("parameter, last byte " + b, d.parameter("x" + last, 1), fine ? 2 : BAD);
            Desk.due("member, byte " + b, d.member("x" + behind, 0, true), fine ? 2 : BAD);
            Desk.due("member, last byte " + b, d.member("x" + last, 0, true), fine ? 3 : BAD);
            Desk.due("type, byte " + b, d.type("X" + behind, NONE), fine ? 4 : BAD);
            Desk.due("type, last byte " + b, d.type("X" + last, NONE), fine ? 5 : BAD);
        }
    }

    private static void lengthOfNames() {
        Desk.sentence("10 bytes at most");
        for (int length : new int[] {0, 1, 2, 9, 10, 11, 12, 20, 21, 599, 600}) {
            boolean fine = length >= 1 && length <= 10;
            Desk d = Desk.small();
            Desk.due("parameter of " + length, d.parameter("x".repeat(length), 1), fine ? 1 : BAD);
            Desk.due("member of " + length, d.member("x".repeat(length), 0, true), fine ? 2 : BAD);
            Desk.due("type of " + length, d.type("X".repeat(length), NONE), fine ? 3 : BAD);
            Desk.due("entries", d.x.count(0), fine ? 4 : 2);
            if (fine) {
                Desk.due("page", d.page(2, 12, 0), "A." + "x".repeat(length) + "\n");
                Desk.due("page", d.page(3, 12, 0), "X".repeat(length) + "\n");
            }
        }
    }

    private static void numberedFrom0() {
        Desk.sentence("numbered from 0 on, as they come");
        Desk d = new Desk();
        Desk.due("first", d.type("A", NONE), 0);
        Desk.due("a refused type", d.type("A", NONE), BAD);
        Desk.due("second", d.member("a", 0, true), 1);
        Desk.due("a refused member", d.member("a", 0, true), BAD);
        Desk.due("third", d.type("B", NONE), 2);
        Desk.due("fourth", d.member("a", 2, false), 3);
    }

    private static void fortyTypes() {
        Desk.sentence("ENTRIES (TYPES and MEMBERS together, 40); type: FULL");
        Desk d = new Desk();
        for (int i = 0; i < 40; i++) {
            Desk.due("type " + i, d.type("T" + i, i - 1), i);
        }
        d.tape("U");
        d.refused("41st, a type", FULL, 0, () -> d.x.type(NONE));
        d.tape("u");
        d.refused("41st, a member", FULL, 0, () -> d.x.member(39, true));
        Desk.due("comment of the last", d.comment(39, "x"), 1);
        Desk.due("the last is there", d.leads(0, "T39"), 39);
        Desk.due("the refused is not", d.leads(0, "U"), NONE);
    }

    private static void fortyWithMembers() {
        Desk.sentence("ENTRIES (TYPES and MEMBERS together, 40); member: FULL");
        Desk d = new Desk();
        d.type("A", NONE);
        for (int i = 1; i < 40; i++) {
            Desk.due("member " + i, d.member("m" + i, 0, false), i);
        }
        d.tape("n");
        d.refused("41st, a member", FULL, 0, () -> d.x.member(0, true));
        d.tape("B");
        d.refused("41st, a type", FULL, 0, () -> d.x.type(0));
        Desk.due("a parameter of the last is no entry", d.parameter("a", 39), 1);
        Desk.due("entries", d.x.count(0), 40);
        Desk.due("types", d.x.count(1), 1);
    }

    private static void parentIsElder() {
        Desk.sentence("a PARENT, an elder TYPE, or none; BAD: no such PARENT (NONE: none)");
        Desk d = new Desk();
        Desk.due("its own number", d.type("A", 0), BAD);
        Desk.due("none", d.type("A", NONE), 0);
        Desk.due("the eldest", d.type("B", 0), 1);
        Desk.due("the youngest", d.type("C", 1), 2);
        Desk.due("a parent of two", d.type("D", 0), 3);
        d.member("m", 0, false);
        d.tape("E");
        d.refused("a member", BAD, 0, () -> d.x.type(4));
        d.tape("E");
        d.refused("its own number", BAD, 0, () -> d.x.type(5));
        for (int parent : FAR) {
            d.tape("E");
            d.refused("parent " + parent, BAD, 0, () -> d.x.type(parent));
        }
        for (int i = 0; i < 4; i++) {
            Desk.due("parent of " + i, d.x.told(i, 1), new int[] {NONE, 0, 1, 0}[i]);
        }
    }

    private static void memberHasType() {
        Desk.sentence("A MEMBER of a TYPE likewise: BAD: no such TYPE");
        Desk d = new Desk();
        Desk.due("without a type", d.member("m", 0, false), BAD);
        d.type("A", NONE);
        Desk.due("of the first", d.member("m", 0, false), 1);
        d.type("B", NONE);
        Desk.due("of the last", d.member("m", 2, false), 3);
        d.tape("n");
        d.refused("of a member", BAD, 0, () -> d.x.member(1, false));
        d.tape("n");
        d.refused("of its own number", BAD, 0, () -> d.x.member(4, false));
        d.tape("n");
        d.refused("of none", BAD, 0, () -> d.x.member(NONE, false));
        for (int type : FAR) {
            d.tape("n");
            d.refused("of " + type, BAD, 0, () -> d.x.member(type, true));
        }
    }

    private static void fourParameters() {
        Desk.sentence("up to 4 PARAMETERS: how many it has; FULL");
        Desk d = Desk.small();
        d.member("n", 0, false);
        for (int i = 1; i <= 4; i++) {
            Desk.due("parameter " + i, d.parameter("p" + i, 1), i);
            Desk.due("told", d.x.told(1, 2), i);
        }
        d.tape("p5");
        d.refused("the fifth", FULL, 0, () -> d.x.parameter(1));
        Desk.due("told", d.x.told(1, 2), 4);
        Desk.due("of another member", d.parameter("p5", 2), 1);
        d.comment(1, "@param p1\n@param p4\n@param p5\n@return");
        Desk.due("the fifth is none", d.notes(1), "4:20 6:1 6:2");
    }

    private static void parameterHasMember() {
        Desk.sentence("A PARAMETER of a MEMBER likewise: BAD: no such MEMBER");
        Desk d = new Desk();
        Desk.due("without a member", d.parameter("a", 0), BAD);
        d.type("A", NONE);
        d.member("m", 0, false);
        d.tape("a");
        d.refused("of a type", BAD, 0, () -> d.x.parameter(0));
        d.tape("a");
        d.refused("of none", BAD, 0, () -> d.x.parameter(NONE));
        d.tape("a");
        d.refused("of one too high", BAD, 0, () -> d.x.parameter(2));
        for (int member : FAR) {
            d.tape("a");
            d.refused("of " + member, BAD, 0, () -> d.x.parameter(member));
        }
        Desk.due("of the member", d.parameter("a", 1), 1);
    }

    private static void unlikeTypes() {
        Desk.sentence("TYPES have unlike NAMES; BAD: one that is there");
        Desk d = new Desk();
        String[] unlike = {"Ab", "A", "Abc", "AB", "Ab1", "Abcdefghi1", "Abcdefghi2", "Abcdefghi"};
        for (int i = 0; i < unlike.length; i++) {
            Desk.due("type " + unlike[i], d.type(unlike[i], NONE), i);
        }
        for (String name : unlike) {
            d.tape(name);
            d.refused("type " + name + " again", BAD, 0, () -> d.x.type(NONE));
            d.tape(name);
            d.refused("type " + name + " again, with a parent", BAD, 0, () -> d.x.type(1));
        }
    }

    private static void unlikeMembers() {
        Desk.sentence("so have the MEMBERS of a TYPE");
        Desk d = new Desk();
        d.type("A", NONE);
        d.type("B", 0);
        String[] unlike = {"ab", "a", "abc", "aB", "abcdefghi1", "abcdefghi2"};
        for (int i = 0; i < unlike.length; i++) {
            Desk.due("member " + unlike[i], d.member(unlike[i], 0, true), 2 + i);
        }
        for (String name : unlike) {
            d.tape(name);
            d.refused("member " + name + " again", BAD, 0, () -> d.x.member(0, false));
        }
        Desk.due("of another type", d.member("ab", 1, true), 8);
    }

    private static void unlikeParameters() {
        Desk.sentence("so have the PARAMETERS of a MEMBER");
        Desk d = Desk.small();
        d.member("n", 0, false);
        String[] unlike = {"ab", "a", "aB", "m"};
        for (int i = 0; i < unlike.length; i++) {
            Desk.due("parameter " + unlike[i], d.parameter(unlike[i], 1), 1 + i);
            if (i == 2) {
                d.tape("ab");
                d.refused("parameter ab again", BAD, 0, () -> d.x.parameter(1));
            }
        }
        Desk.due("of another member", d.parameter("ab", 2), 1);
    }

    private static void tapeIsEmptyInAnyCase() {
        Desk.sentence("THE TAPE (which is empty then in any case)");
        String[] names = {"", "B", "A", "b", "B ", "x".repeat(600)};
        for (int number : new int[] {NONE, 0, 1, 2, 40}) {
            for (String name : names) {
                Desk d = Desk.small();
                d.type(name, number);
                Desk.due("tape behind type " + number, d.x.count(2), 0);
                d.member(name, number, true);
                Desk.due("tape behind member " + number, d.x.count(2), 0);
                d.parameter(name, number);
                Desk.due("tape behind parameter " + number, d.x.count(2), 0);
                d.type("Next", NONE);
                Desk.due("nothing of it goes on", d.leads(0, "Next") >= 0, true);
            }
        }
    }

    private static void badAheadOfFull() {
        Desk.sentence("the first that fits: BAD, then FULL");
        Desk d = new Desk();
        d.type("A", NONE);
        for (int i = 1; i < 40; i++) {
            d.member("m" + i, 0, false);
        }
        Desk.due("type, no such parent", d.type("B", 1), BAD);
        Desk.due("type, no name", d.type("b", 0), BAD);
        Desk.due("type, nothing", d.type("", 0), BAD);
        Desk.due("type, one that is there", d.type("A", 0), BAD);
        Desk.due("type", d.type("B", 0), FULL);
        Desk.due("member, no such type", d.member("n", 1, true), BAD);
        Desk.due("member, no name", d.member("N", 0, true), BAD);
        Desk.due("member, one that is there", d.member("m39", 0, true), BAD);
        Desk.due("member", d.member("n", 0, true), FULL);
        for (int i = 0; i < 4; i++) {
            d.parameter("p" + i, 1);
        }
        Desk.due("parameter, no name", d.parameter("P", 1), BAD);
        Desk.due("parameter, one that is there", d.parameter("p3", 1), BAD);
        Desk.due("parameter, no such member", d.parameter("q", 0), BAD);
        Desk.due("parameter", d.parameter("q", 1), FULL);
    }

    private static void returnsOrNot() {
        Desk.sentence("RETURNS something or nothing; 3 whether it RETURNS");
        Desk d = new Desk();
        d.type("A", NONE);
        d.member("m", 0, true);
        d.member("n", 0, false);
        Desk.due("something", d.x.told(1, 3), 1);
        Desk.due("nothing", d.x.told(2, 3), 0);
        Desk.due("a type", d.x.told(0, 3), 0);
    }

    private static void toldOfOthers() {
        Desk.sentence("0 the TYPE that it is of (NONE: a TYPE), 1 the PARENT of a TYPE (NONE; of others)");
        Desk d = new Desk();
        d.type("A", NONE);
        d.type("B", 0);
        d.member("m", 1, true);
        Desk.due("type of a type", d.x.told(0, 0), NONE);
        Desk.due("type of one with a parent", d.x.told(1, 0), NONE);
        Desk.due("type of a member", d.x.told(2, 0), 1);
        Desk.due("no parent", d.x.told(0, 1), NONE);
        Desk.due("parent", d.x.told(1, 1), 0);
        Desk.due("parent of a member", d.x.told(2, 1), NONE);
        Desk.due("parameters of a type", d.x.told(0, 2), 0);
        Desk.due("parameters of none", d.x.told(2, 2), 0);
    }

    private static void aboveTheNearest() {
        Desk.sentence("ABOVE a MEMBER of TYPE T is the MEMBER with its NAME of the nearest .. which has such");
        Desk d = new Desk();
        d.type("A", NONE);
        d.type("B", 0);
        d.type("C", 1);
        d.type("D", 0);
        d.member("m", 2, false);
        Desk.due("no one has it", d.x.told(4, 4), NONE);
        d.member("m", 3, false);
        Desk.due("one beside has it", d.x.told(4, 4), NONE);
        d.member("m1", 1, false);
        d.member("mm", 0, false);
        Desk.due("others are there", d.x.told(4, 4), NONE);
        Desk.due("far", d.member("m", 0, false), 8);
        Desk.due("above", d.x.told(4, 4), 8);
        Desk.due("near", d.member("m", 1, false), 9);
        Desk.due("above", d.x.told(4, 4), 9);
        Desk.due("above the near", d.x.told(9, 4), 8);
        Desk.due("above the one beside", d.x.told(5, 4), 8);
        Desk.due("above the uppermost", d.x.told(8, 4), NONE);
    }

    private static void aboveOverManyTypes() {
        Desk.sentence("of T's PARENT, that one's PARENT and so on");
        Desk d = new Desk();
        for (int i = 0; i < 38; i++) {
            d.type("T" + i, i - 1);
        }
        d.member("m", 0, false);
        d.member("m", 37, false);
        Desk.due("above over 37 parents", d.x.told(39, 4), 38);
        Desk.due("leads over 37 parents", d.leads(36, "m"), 38);
        Desk.due("leads to the nearest", d.leads(37, "m"), 39);
        d.comment(38, "x");
        Desk.due("counts over 37 parents", d.x.told(39, 5), 38);
    }

    private static void aboveTypeIsNothing() {
        Desk.sentence("above a TYPE is nothing");
        Desk d = new Desk();
        d.type("A", NONE);
        d.type("B", 0);
        d.comment(0, "x");
        Desk.due("above", d.x.told(1, 4), NONE);
        Desk.due("counts", d.x.told(1, 5), NONE);
        Desk.due("page", d.page(1, 12, 0), "B\n");
    }

    private static void commentThatCounts() {
        Desk.sentence("The COMMENT that COUNTS for an ENTRY is its own; without, that which counts for the one ABOVE; else none");
        Desk d = new Desk();
        for (int i = 0; i < 20; i++) {
            d.type("T" + i, i == 0 ? NONE : 2 * i - 2);
            d.member("m", 2 * i, false);
        }
        Desk.due("none", d.x.told(39, 5), NONE);
        for (int i = 0; i < 20; i++) {
            d.comment(2 * i + 1, "");
            Desk.due("up to level " + i, d.x.told(39, 5), 2 * i + 1);
            Desk.due("not downwards", d.x.told(1, 5), 1);
        }
        for (int i = 19; i > 0; i--) {
            d.x.bare(2 * i + 1);
            Desk.due("without level " + i, d.x.told(39, 5), 2 * i - 1);
        }
        d.x.bare(1);
        Desk.due("none again", d.x.told(39, 5), NONE);
        d.comment(0, "x");
        Desk.due("its type's does not count", d.x.told(1, 5), NONE);
    }

    private static void toldIsBad() {
        Desk.sentence("told: BAD -9: there is no such ENTRY, what");
        Desk d = Desk.small();
        d.comment(1, "x");
        for (int what = 0; what < 8; what++) {
            int asked = what;
            d.refused("entry -1", -9, 0, () -> d.x.told(-1, asked));
            d.refused("entry 2", -9, 0, () -> d.x.told(2, asked));
        }
        for (int far : FAR) {
            d.refused("entry " + far, -9, 0, () -> d.x.told(far, 0));
            d.refused("what " + far, -9, 0, () -> d.x.told(1, far));
        }
        for (int entry = 0; entry < 2; entry++) {
            Desk.due("what -1", d.x.told(entry, -1), -9);
            Desk.due("what 8", d.x.told(entry, 8), -9);
        }
    }

    /** A (0) with up (1), B (2) below it with m (3), C (4) with m (5) and own (6). */
    private static Desk three() {
        Desk d = new Desk();
        d.type("A", NONE);
        d.member("up", 0, false);
        d.type("B", 0);
        d.member("m", 2, false);
        d.type("C", NONE);
        d.member("m", 4, false);
        d.member("own", 4, false);
        return d;
    }

    private static void referenceToType() {
        Desk.sentence("with A .. Z alone: the TYPE");
        Desk d = three();
        for (int entry = 0; entry < 7; entry++) {
            Desk.due("A from " + entry, d.leads(entry, "A"), 0);
            Desk.due("C from " + entry, d.leads(entry, "C"), 4);
            Desk.due("D from " + entry, d.leads(entry, "D"), NONE);
            Desk.due("AA from " + entry, d.leads(entry, "AA"), NONE);
        }
        d.type("Z", NONE);
        Desk.due("Z", d.leads(0, "Z"), 7);
    }

    private static void referenceToMember() {
        Desk.sentence("with a .. z alone: the MEMBER of T, or of the nearest of its PARENTS that has it");
        Desk d = three();
        int[] m = {NONE, NONE, 3, 3, 5, 5, 5};
        int[] up = {1, 1, 1, 1, NONE, NONE, NONE};
        for (int entry = 0; entry < 7; entry++) {
            Desk.due("m from " + entry, d.leads(entry, "m"), m[entry]);
            Desk.due("up from " + entry, d.leads(entry, "up"), up[entry]);
        }
        d.member("z", 0, false);
        Desk.due("z", d.leads(3, "z"), 7);
    }

    private static void referenceWithType() {
        Desk.sentence("T2.m: likewise from TYPE T2");
        Desk d = three();
        for (int entry = 0; entry < 7; entry++) {
            Desk.due("B.m from " + entry, d.leads(entry, "B.m"), 3);
            Desk.due("B.up from " + entry, d.leads(entry, "B.up"), 1);
            Desk.due("A.m from " + entry, d.leads(entry, "A.m"), NONE);
            Desk.due("C.up from " + entry, d.leads(entry, "C.up"), NONE);
            Desk.due("C.own from " + entry, d.leads(entry, "C.own"), 6);
        }
    }

    private static void referenceElse() {
        Desk.sentence("else to nothing; NONE: to nothing, or it is none such");
        Desk d = three();
        String[] nothing = {"", ".", "..", "A.", ".m", "B..m", "B.m.", ".B.m", "B.m.m", "m.m", "m.B", "B.B", "A.B", "B.C",
            "B m", "B .m", " B", "B ", "m ", "B\n", "B.1", "1", "1.m", "B,m", "B#m", "\u0000", "\u00c4", "D.m", "b", "M"};
        for (String reference : nothing) {
            for (int entry : new int[] {2, 3}) {
                d.tape(reference);
                d.refused("'" + reference + "' from " + entry, NONE, 0, () -> d.x.leads(entry));
            }
        }
    }

    private static void referenceLengths() {
        Desk.sentence("A REFERENCE is NAME or NAME.NAME (10 bytes at most)");
        Desk d = new Desk();
        d.type("Abcdefghij", NONE);
        d.member("abcdefghij", 0, false);
        d.type("A", NONE);
        d.member("a", 2, false);
        Desk.due("ten", d.leads(2, "Abcdefghij"), 0);
        Desk.due("ten, member", d.leads(0, "abcdefghij"), 1);
        Desk.due("ten and ten", d.leads(2, "Abcdefghij.abcdefghij"), 1);
        Desk.due("one", d.leads(0, "A"), 2);
        Desk.due("one, member", d.leads(2, "a"), 3);
        Desk.due("one and one", d.leads(0, "A.a"), 3);
        String[] other = {"Abcdefghijk", "Abcdefghi", "abcdefghijk", "abcdefghi", "Abcdefghijk.abcdefghij",
            "Abcdefghij.abcdefghijk", "Abcdefghij.abcdefghi", "Abcdefghi.abcdefghij", "A".repeat(600)};
        for (String reference : other) {
            Desk.due(reference, d.leads(0, reference), NONE);
        }
    }

    private static void leadsEmptiesTape() {
        Desk.sentence("leads: THE TAPE (empty then)");
        String[] texts = {"", "A", "A.up", "Gone", "}", "x".repeat(600)};
        for (String text : texts) {
            for (int entry : new int[] {0, 1, -1, 7, Integer.MAX_VALUE, Integer.MIN_VALUE}) {
                Desk d = three();
                d.leads(entry, text);
                Desk.due("tape", d.x.count(2), 0);
                Desk.due("twenty behind nothing", d.x.feed(0, 0, 0, 0, 0), 20);
            }
        }
    }

    private static void leadsIsBad() {
        Desk.sentence("leads: BAD -9: no such ENTRY");
        Desk d = three();
        for (int entry : FAR) {
            d.tape("A");
            d.refused("leads from " + entry, -9, 0, () -> d.x.leads(entry));
        }
        for (int entry : new int[] {-1, 7}) {
            d.tape("A");
            d.refused("leads from " + entry, -9, 0, () -> d.x.leads(entry));
            d.tape("");
            d.refused("leads of nothing from " + entry, -9, 0, () -> d.x.leads(entry));
        }
        Desk.due("the last entry", d.leads(6, "A"), 0);
    }
}
