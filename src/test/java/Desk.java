import java.nio.charset.StandardCharsets;

/** What the tests share: an object under test, texts in place of numbers, and a count of wrong answers. */
final class Desk {
    private static int wrong = 0;
    final DocFormat x = new DocFormat();

    static void due(String what, Object got, Object want) {
        if (!got.equals(want)) {
            wrong++;
            System.out.println(what + " answered " + got + ", due is " + want);
        }
    }

    static void finish() {
        System.out.println(wrong == 0 ? "all answers are as due" : wrong + " answers are not as due");
        if (wrong != 0) {
            System.exit(1);
        }
    }

    /** Puts a text on the tape, which is empty before. */
    void tape(String text) {
        byte[] bytes = text.getBytes(StandardCharsets.ISO_8859_1);
        x.end(0);
        for (int i = 0; i < bytes.length; i += 20) {
            int[] n = new int[5];
            for (int j = 0; j < 20; j++) {
                int value = i + j < bytes.length ? bytes[i + j] & 255 : ' ';
                n[j / 4] = n[j / 4] << 8 | value;
            }
            x.feed(n[0], n[1], n[2], n[3], n[4]);
        }
        x.end(bytes.length);
    }

    int type(String name, int parent) {
        tape(name);
        return x.type(parent);
    }

    int member(String name, int type, boolean returns) {
        tape(name);
        return x.member(type, returns);
    }

    int parameter(String name, int member) {
        tape(name);
        return x.parameter(member);
    }

    int comment(int entry, String text) {
        tape(text);
        return x.comment(entry);
    }

    int leads(int entry, String reference) {
        tape(reference);
        return x.leads(entry);
    }

    /** The bytes of the page as a text. */
    String page() {
        StringBuilder text = new StringBuilder();
        for (int i = 0; i < x.about(1); i++) {
            text.append((char) x.at(i));
        }
        return text.toString();
    }

    String page(int entry, int width, int how) {
        int lines = x.page(entry, width, how);
        return lines < 0 ? Integer.toString(lines) : page();
    }

    /** The notes of an entry, "sort:number" each. */
    String notes(int entry) {
        int n = x.notes(entry);
        StringBuilder text = new StringBuilder();
        for (int i = 0; i < n; i++) {
            text.append(i == 0 ? "" : " ").append(x.note(i, 0)).append(':').append(x.note(i, 1));
        }
        return n < 0 ? Integer.toString(n) : text.toString();
    }
}
