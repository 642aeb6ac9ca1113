import com.sun.management.ThreadMXBean;
import java.lang.management.ManagementFactory;

/** What a run takes of the room in which all its calls live: rows are made once and used again. */
public final class RoomTest {
    private static final ThreadMXBean THREAD = (ThreadMXBean) ManagementFactory.getThreadMXBean();
    /** Far below the room, in which 600,000 objects have more than these bytes already. */
    private static final long MOST = 2_000_000;
    private static int sum = 0;

    public static void main(String[] args) {
        // Once ahead, so that the machine's own rows are not counted.
        run();
        long before = THREAD.getCurrentThreadAllocatedBytes();
        DocFormat x = run();
        long made = THREAD.getCurrentThreadAllocatedBytes() - before;
        Desk.due("a run with 40 comments makes at most " + MOST + " bytes: " + made, made <= MOST, true);
        callsThatMakeNothing(x);
        Desk.finish();
    }

    private static void feed(DocFormat x, String text) {
        for (int i = 0; i < text.length(); i += 4) {
            int n = 0;
            for (int j = 0; j < 4; j++) {
                n = n << 8 | (i + j < text.length() ? text.charAt(i + j) : ' ');
            }
            int had = x.count(2);
            x.feed(n, 0x20202020, 0x20202020, 0x20202020, 0x20202020);
            x.end(had + Math.min(4, text.length() - i));
        }
    }

    /** Twenty types with a member each, all with a comment that takes over the one above. */
    private static DocFormat run() {
        DocFormat x = new DocFormat();
        String name = "ABCDEFGHIJKLMNOPQRST";
        for (int i = 0; i < 20; i++) {
            feed(x, name.substring(i, i + 1));
            x.type(i == 0 ? DocFormat.NONE : 2 * i - 2);
            feed(x, "m");
            x.member(2 * i, true);
            feed(x, "{link m} and {code x}");
            x.comment(2 * i);
            feed(x, "{inherit}\n\nwords {link m} {link X}\n@return");
            x.comment(2 * i + 1);
        }
        return x;
    }

    private static void callsThatMakeNothing(DocFormat x) {
        String text = "{inherit}\n\nsome {link m} {link X}\n@see A";
        for (int i = 0; i < 3; i++) {
            use(x, text);
        }
        long before = THREAD.getCurrentThreadAllocatedBytes();
        for (int i = 0; i < 100; i++) {
            use(x, text);
        }
        long made = THREAD.getCurrentThreadAllocatedBytes() - before;
        Desk.due("a hundred rounds of calls make nothing new: " + made + " bytes", made < 10_000, true);
        Desk.due("all were answered", sum != 0, true);
    }

    private static void use(DocFormat x, String text) {
        feed(x, text);
        sum += x.comment(39);
        feed(x, "A.m");
        sum += x.leads(39);
        sum += x.page(39, 20, 1);
        sum += x.page(39, 60, 0);
        sum += x.notes(39) + x.note(0, 0) + x.told(39, 5) + x.block(39, 0, 0) + x.piece(39, 0, 4);
        sum += x.bare(39);
        feed(x, "}");
        sum += x.comment(39);
    }
}
