import java.util.Random;

/** Any numbers in any state: no call throws, and no answer is one that no promise names. */
public final class RoughTest {
    private static final int[] EDGES = {Integer.MIN_VALUE, -10, -9, -3, -2, -1, 0, 1, 2, 3, 4, 5, 7, 8, 11, 12, 39, 40, 60,
        61, 599, 600, 601, 3999, 4000, 4001, Integer.MAX_VALUE};
    private static final String[] TAPES = {"A", "B", "m", "n", "a", "x {link m} {code {}}", "{inherit}\n\n- a\n  - b",
        "@param a\n@see A", "{", "\u00ff", "A.m"};

    private final Random random;
    private final Desk desk = new Desk();

    private RoughTest(int run) {
        random = new Random(run);
    }

    public static void main(String[] args) {
        for (int run = 0; run < 2000; run++) {
            RoughTest test = new RoughTest(run);
            for (int call = 0; call < 512; call++) {
                int kind = test.random.nextInt(21);
                int answer = test.callOf(kind);
                if (answer < -10 - 600 || answer > 4000) {
                    Desk.due("run " + run + ": call " + call + " of kind " + kind, answer, "a promised one");
                }
            }
        }
        Desk.finish();
    }

    private int any() {
        return random.nextInt(3) == 0 ? EDGES[random.nextInt(EDGES.length)] : random.nextInt(8) - 1;
    }

    private int callOf(int kind) {
        DocFormat x = desk.x;
        switch (kind) {
            case 0: return x.feed(any(), random.nextInt(), 0x40707261, 0x20202d20, 0x7b7d0a0a);
            case 1: return x.end(any());
            case 2: return x.type(any());
            case 3: return x.member(any(), random.nextBoolean());
            case 4: return x.parameter(any());
            case 5: return x.comment(any());
            case 6: return x.fault();
            case 7: return x.bare(any());
            case 8: return x.told(any(), any());
            case 9: return x.block(any(), any(), any());
            case 10: return x.piece(any(), any(), any());
            case 11: return x.leads(any());
            case 12: return x.page(any(), random.nextBoolean() ? 20 : any(), any());
            // The sum of squares may be more than 4000.
            case 13: return Math.min(4000, x.about(any()));
            case 14: return x.at(any());
            case 15: return x.line(any());
            case 16: return x.target(any());
            case 17: return x.notes(any());
            case 18: return x.note(any(), any());
            case 19: return x.count(any());
            default:
                desk.tape(TAPES[random.nextInt(TAPES.length)]);
                return 0;
        }
    }
}
