/** Promises 4, 5, 6, 10 and 13: type, member, parameter, told, leads. */
public final class EntriesTest {
    public static void main(String[] args) {
        types();
        members();
        parameters();
        full();
        told();
        above();
        leads();
        leadsNowhere();
        Desk.finish();
    }

    private static void types() {
        Desk d = new Desk();
        Desk.due("first type", d.type("Row", DocFormat.NONE), 0);
        Desk.due("type with parent", d.type("Box2Z", 0), 1);
        Desk.due("name of ten", d.type("Abcdefghi9", 1), 2);
        String[] wrong = {"", "Row", "row", "Abcdefghij1", "9A", "A b", " A", "A ", "A.B", "A_", "A\n", "\u00c4"};
        for (String name : wrong) {
            Desk.due("type '" + name + "'", d.type(name, 0), DocFormat.BAD);
            Desk.due("tape behind '" + name + "'", d.x.count(2), 0);
        }
        Desk.due("parent 3", d.type("C", 3), DocFormat.BAD);
        Desk.due("parent -2", d.type("C", -2), DocFormat.BAD);
        Desk.due("parent largest", d.type("C", Integer.MAX_VALUE), DocFormat.BAD);
        d.member("m", 0, true);
        Desk.due("parent is a member", d.type("C", 3), DocFormat.BAD);
        Desk.due("tape", d.x.count(2), 0);
        Desk.due("entries", d.x.count(0), 4);
        Desk.due("other case", d.type("ROW", -1), 4);
    }

    private static void members() {
        Desk d = new Desk();
        d.type("A", -1);
        d.type("B", 0);
        Desk.due("member", d.member("m", 0, true), 2);
        Desk.due("same name in another type", d.member("m", 1, false), 3);
        Desk.due("same name in the same type", d.member("m", 0, false), DocFormat.BAD);
        Desk.due("upper case", d.member("M", 0, false), DocFormat.BAD);
        Desk.due("too long", d.member("abcdefghijk", 0, false), DocFormat.BAD);
        Desk.due("no name", d.member("", 0, false), DocFormat.BAD);
        Desk.due("of a member", d.member("n", 2, false), DocFormat.BAD);
        Desk.due("of none", d.member("n", DocFormat.NONE, false), DocFormat.BAD);
        Desk.due("of 4", d.member("n", 4, false), DocFormat.BAD);
        Desk.due("tape", d.x.count(2), 0);
        Desk.due("other case", d.member("mM", 0, false), 4);
    }

    private static void parameters() {
        Desk d = new Desk();
        d.type("A", -1);
        d.member("m", 0, true);
        d.member("n", 0, true);
        Desk.due("first", d.parameter("a", 1), 1);
        Desk.due("again", d.parameter("a", 1), DocFormat.BAD);
        Desk.due("upper case", d.parameter("B", 1), DocFormat.BAD);
        Desk.due("no name", d.parameter("", 1), DocFormat.BAD);
        Desk.due("of a type", d.parameter("b", 0), DocFormat.BAD);
        Desk.due("of none", d.parameter("b", 3), DocFormat.BAD);
        Desk.due("of -1", d.parameter("b", -1), DocFormat.BAD);
        Desk.due("tape", d.x.count(2), 0);
        Desk.due("of another", d.parameter("a", 2), 1);
        Desk.due("second", d.parameter("b", 1), 2);
        Desk.due("third", d.parameter("c", 1), 3);
        Desk.due("fourth, as the member", d.parameter("m", 1), 4);
        Desk.due("fifth", d.parameter("e", 1), DocFormat.FULL);
        Desk.due("tape", d.x.count(2), 0);
        Desk.due("BAD goes ahead of FULL", d.parameter("a", 1), DocFormat.BAD);
        Desk.due("how many", d.x.told(1, 2), 4);
    }

    private static void full() {
        Desk d = new Desk();
        for (int i = 0; i < 20; i++) {
            Desk.due("type " + i, d.type("T" + i, i == 0 ? -1 : 2 * i - 2), 2 * i);
            Desk.due("member " + i, d.member("m", 2 * i, false), 2 * i + 1);
        }
        Desk.due("41st, a type", d.type("U", 0), DocFormat.FULL);
        Desk.due("41st, a member", d.member("n", 0, true), DocFormat.FULL);
        Desk.due("tape", d.x.count(2), 0);
        Desk.due("BAD type ahead of FULL", d.type("T0", 0), DocFormat.BAD);
        Desk.due("BAD member ahead of FULL", d.member("m", 0, true), DocFormat.BAD);
        Desk.due("entries", d.x.count(0), 40);
        Desk.due("above the last", d.x.told(39, 4), 37);
        d.comment(1, "first");
        Desk.due("counts for the last", d.x.told(39, 5), 1);

        Desk deep = new Desk();
        for (int i = 0; i < 39; i++) {
            deep.type("T" + i, i - 1);
        }
        deep.member("m", 0, false);
        Desk.due("over all parents", deep.leads(38, "m"), 39);
        Desk.due("over all parents, with type", deep.leads(0, "T38.m"), 39);
    }

    private static void told() {
        Desk d = new Desk();
        d.type("A", -1);
        d.type("B", 0);
        d.member("m", 1, true);
        d.member("n", 1, false);
        d.parameter("a", 2);
        d.comment(2, "two words\n- {code x}");
        int[][] want = {
            {-1, -1, 0, 0, -1, -1, 0, 0},
            {-1, 0, 0, 0, -1, -1, 0, 0},
            {1, -1, 1, 1, -1, 2, 2, 3},
            {1, -1, 0, 0, -1, -1, 0, 0},
        };
        for (int entry = 0; entry < want.length; entry++) {
            for (int what = 0; what < 8; what++) {
                Desk.due("told " + entry + " " + what, d.x.told(entry, what), want[entry][what]);
            }
        }
        Desk.due("told 0 8", d.x.told(0, 8), -9);
        Desk.due("told 0 -1", d.x.told(0, -1), -9);
        Desk.due("told 4 0", d.x.told(4, 0), -9);
        Desk.due("told -1 0", d.x.told(-1, 0), -9);
    }

    private static void above() {
        Desk d = new Desk();
        d.type("A", -1);
        d.type("B", 0);
        d.type("C", 1);
        d.member("m", 2, false);
        Desk.due("nothing above", d.x.told(3, 4), -1);
        d.member("m", 0, false);
        Desk.due("over one without it", d.x.told(3, 4), 4);
        d.member("m", 1, false);
        Desk.due("the nearest", d.x.told(3, 4), 5);
        Desk.due("no comment counts", d.x.told(3, 5), -1);
        d.comment(4, "far");
        Desk.due("counts from far", d.x.told(3, 5), 4);
        d.comment(5, "");
        Desk.due("one without blocks counts", d.x.told(3, 5), 5);
        d.comment(3, "own");
        Desk.due("own counts", d.x.told(3, 5), 3);
        d.x.bare(3);
        d.x.bare(5);
        Desk.due("far again", d.x.told(3, 5), 4);
        d.comment(0, "of the type");
        Desk.due("above a type is nothing", d.x.told(2, 5), -1);
    }

    private static void leads() {
        Desk d = new Desk();
        d.type("A", -1);
        d.type("B", 0);
        d.member("m", 0, false);
        d.member("n", 1, false);
        d.member("m", 1, false);
        d.type("Far", -1);
        d.member("own", 5, false);
        Desk.due("type", d.leads(5, "A"), 0);
        Desk.due("own member", d.leads(1, "n"), 3);
        Desk.due("nearest member", d.leads(1, "m"), 4);
        Desk.due("from a member", d.leads(3, "m"), 4);
        Desk.due("of the parent", d.leads(2, "m"), 2);
        Desk.due("not downwards", d.leads(0, "n"), -1);
        Desk.due("not beside", d.leads(1, "own"), -1);
        Desk.due("with type", d.leads(0, "Far.own"), 6);
        Desk.due("with type, upwards", d.leads(5, "B.n"), 3);
        Desk.due("with type, to its parent", d.leads(6, "A.m"), 2);
        d.member("up", 0, true);
        Desk.due("inherited with type", d.leads(5, "B.up"), 7);
        Desk.due("tape", d.x.count(2), 0);
    }

    private static void leadsNowhere() {
        Desk d = new Desk();
        d.type("A", -1);
        d.member("m", 0, false);
        String[] nothing = {"", "B", "x", "A.x", "B.m", "m.m", "A.A", "m.A", "A.", ".m", "A.m.m", "A..m", " A", "A ",
            "A m", "Abcdefghijk", "A.\nm"};
        for (String reference : nothing) {
            Desk.due("leads '" + reference + "'", d.leads(0, reference), DocFormat.NONE);
            Desk.due("tape behind '" + reference + "'", d.x.count(2), 0);
        }
        for (int entry : new int[] {2, -1, 40, Integer.MAX_VALUE, Integer.MIN_VALUE}) {
            Desk.due("no such entry " + entry, d.leads(entry, "A"), -9);
            Desk.due("tape behind no such entry " + entry, d.x.count(2), 0);
        }
    }
}
