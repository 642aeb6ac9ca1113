/** Promises 1, 2, 3 and 21: a new object, feed, end, count. */
public final class TapeTest {
    public static void main(String[] args) {
        newObject();
        feeds();
        ends();
        counts();
        Desk.finish();
    }

    private static void newObject() {
        Desk d = new Desk();
        for (int what = 0; what < 4; what++) {
            Desk.due("new: count " + what, d.x.count(what), 0);
        }
        for (int what = 0; what < 5; what++) {
            Desk.due("new: about " + what, d.x.about(what), 0);
        }
        Desk.due("new: fault", d.x.fault(), 0);
        Desk.due("new: at", d.x.at(0), 0);
        Desk.due("new: line", d.x.line(0), DocFormat.BAD);
        Desk.due("new: target", d.x.target(1), DocFormat.BAD);
        Desk.due("new: note", d.x.note(0, 0), DocFormat.BAD);
        Desk.due("new: told", d.x.told(0, 0), -9);
        Desk.due("new: comment", d.x.comment(0), DocFormat.BAD);
        Desk.due("new: bare", d.x.bare(0), DocFormat.BAD);
        Desk.due("new: page", d.x.page(0, 20, 0), DocFormat.BAD);
        Desk.due("new: notes", d.x.notes(0), DocFormat.BAD);
    }

    private static void feeds() {
        Desk d = new Desk();
        for (int i = 1; i <= 30; i++) {
            Desk.due("feed " + i, d.x.feed(-1, 0, i, -i, 7), 20 * i);
        }
        Desk.due("feed 31", d.x.feed(1, 2, 3, 4, 5), DocFormat.FULL);
        Desk.due("full tape", d.x.count(2), 600);
        d.x.end(581);
        Desk.due("feed at 581", d.x.feed(1, 2, 3, 4, 5), DocFormat.FULL);
        Desk.due("refused feed", d.x.count(2), 581);
        d.x.end(580);
        Desk.due("feed at 580", d.x.feed(1, 2, 3, 4, 5), 600);

        // The highest byte comes first: "Abcd" .. make the name of a type.
        d.x.end(0);
        d.x.feed(0x41626364, 0x65666768, 0x696A2020, 0, 0);
        d.x.end(10);
        Desk.due("type of the numbers", d.x.type(-1), 0);
        Desk.due("page of it", d.page(0, 12, 0), "Abcdefghij\n");
    }

    private static void ends() {
        Desk d = new Desk();
        Desk.due("end 0 of nothing", d.x.end(0), 0);
        Desk.due("end 1 of nothing", d.x.end(1), DocFormat.BAD);
        d.x.feed(0, 0, 0, 0, 0);
        Desk.due("end -1", d.x.end(-1), DocFormat.BAD);
        Desk.due("end 21", d.x.end(21), DocFormat.BAD);
        Desk.due("end of the smallest", d.x.end(Integer.MIN_VALUE), DocFormat.BAD);
        Desk.due("end of the largest", d.x.end(Integer.MAX_VALUE), DocFormat.BAD);
        Desk.due("refused ends", d.x.count(2), 20);
        Desk.due("end 20", d.x.end(20), 20);
        Desk.due("end 7", d.x.end(7), 20);
        Desk.due("end 7 again", d.x.end(7), 7);
        Desk.due("end 0", d.x.end(0), 7);
        Desk.due("tape", d.x.count(2), 0);
    }

    private static void counts() {
        Desk d = new Desk();
        d.type("A", -1);
        d.type("B", 0);
        d.member("m", 0, false);
        d.comment(2, "x");
        d.comment(0, "");
        d.comment(1, "}");
        d.tape("abc");
        Desk.due("count 0", d.x.count(0), 3);
        Desk.due("count 1", d.x.count(1), 2);
        Desk.due("count 2", d.x.count(2), 3);
        Desk.due("count 3", d.x.count(3), 2);
        Desk.due("count 4", d.x.count(4), DocFormat.BAD);
        Desk.due("count -1", d.x.count(-1), DocFormat.BAD);
        d.x.bare(0);
        Desk.due("count 3 without one", d.x.count(3), 1);
    }
}
