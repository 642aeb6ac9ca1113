import java.nio.charset.StandardCharsets;
import java.util.function.IntSupplier;

/** What the tests share: an object under test, texts in place of numbers, and a count of wrong answers. */
final class Desk {
    private static int wrong = 0;
    private static String sentence = "";
    final DocFormat x = new DocFormat();

    /** The words of the document that what follows is due by. */
    static void sentence(String words) {
        sentence = words;
    }

    static void due(String what, Object got, Object want) {
        if (!got.equals(want)) {
            wrong++;
            System.out.println((sentence.isEmpty() ? "" : "\"" + sentence + "\": ")
                    + what + " answered " + got + ", due is " + want);
        }
    }

    static void finish() {
        System.out.println(wrong == 0 ? "all answers are as due" : wrong + " answers are not as due");
        if (wrong != 0) {
            System.exit(1);
        }
    }

    /** The type A (0) and its member m (1), which returns something. */
    static Desk small() {
        Desk d = new Desk();
        d.type("A", DocFormat.NONE);
        d.member("m", 0, true);
        return d;
    }

    /** Puts a text on the tape, which is empty before. */
    void tape(String text) {
        byte[] bytes = text.getBytes(StandardCharsets.ISO_8859_1);
        x.end(0);
        for (int i = 0; i < bytes.length; i += 20) {
            int[] n = new int[5];
            for (int j = 0; j < 20; j++) {
                int value = i + j < bytes.length ? bytes[i + j] & 255 : ' ';
                n[j / 4] = n[j / 4] << 8 | value;
            }
            x.feed(n[0], n[1], n[2], n[3], n[4]);
        }
        x.end(bytes.length);
    }

    int type(String name, int parent) {
        tape(name);
        return x.type(parent);
    }

    int member(String name, int type, boolean returns) {
        tape(name);
        return x.member(type, returns);
    }

    int parameter(String name, int member) {
        tape(name);
        return x.parameter(member);
    }

    int comment(int entry, String text) {
        tape(text);
        return x.comment(entry);
    }

    int leads(int entry, String reference) {
        tape(reference);
        return x.leads(entry);
    }

    /** The bytes of the page as a text. */
    String page() {
        StringBuilder text = new StringBuilder();
        for (int i = 0; i < x.about(1); i++) {
            text.append((char) x.at(i));
        }
        return text.toString();
    }

    String page(int entry, int width, int how) {
        int lines = x.page(entry, width, how);
        return lines < 0 ? Integer.toString(lines) : page();
    }

    /** The notes of an entry, "sort:number" each. */
    String notes(int entry) {
        int n = x.notes(entry);
        StringBuilder text = new StringBuilder();
        for (int i = 0; i < n; i++) {
            text.append(i == 0 ? "" : " ").append(x.note(i, 0)).append(':').append(x.note(i, 1));
        }
        return n < 0 ? Integer.toString(n) : text.toString();
    }

    /** What comes of reading a comment: "n blocks", or "code at place". */
    String read(int entry, String text) {
        int answer = comment(entry, text);
        return answer <= -10 ? x.fault() + " at " + (-10 - answer) : answer + " blocks";
    }

    /** A call that is refused: its answer, how many bytes it leaves on the tape, and that all else stays. */
    void refused(String what, int want, int tapeLeft, IntSupplier call) {
        String before = state();
        due(what, call.getAsInt(), want);
        due("tape behind " + what, x.count(2), tapeLeft);
        due("state behind " + what, state(), before);
    }

    /** All but the tape that calls tell without a change. */
    String state() {
        StringBuilder text = new StringBuilder("fault " + x.fault());
        text.append(" counts ").append(x.count(0)).append(' ').append(x.count(1)).append(' ').append(x.count(3));
        for (int entry = 0; entry < x.count(0); entry++) {
            addEntry(text, entry);
        }
        text.append("\npage");
        for (int what = 0; what < 5; what++) {
            text.append(' ').append(x.about(what));
        }
        for (int i = 0; i < x.about(0); i++) {
            text.append(" line ").append(x.line(i));
        }
        for (int k = 1; k <= x.about(2); k++) {
            text.append(" target ").append(x.target(k));
        }
        text.append('\n').append(page()).append("notes");
        for (int i = 0; x.note(i, 0) != DocFormat.BAD; i++) {
            text.append(' ').append(x.note(i, 0)).append(':').append(x.note(i, 1));
        }
        return text.toString();
    }

    private void addEntry(StringBuilder text, int entry) {
        text.append("\nentry");
        for (int what = 0; what < 8; what++) {
            text.append(' ').append(x.told(entry, what));
        }
        for (int i = 0; i < x.told(entry, 6); i++) {
            text.append(" block");
            for (int what = 0; what < 4; what++) {
                text.append(' ').append(x.block(entry, i, what));
            }
        }
        for (int i = 0; i < x.told(entry, 7); i++) {
            text.append(" piece");
            for (int what = 0; what < 5; what++) {
                text.append(' ').append(x.piece(entry, i, what));
            }
        }
    }
}
