/** Promises 7 and 8: the places and codes of faults. */
public final class FaultTest {
    public static void main(String[] args) {
        oddBytes();
        depths();
        order();
        tags();
        pieces();
        inherit();
        tooMany();
        twice();
        latest();
        Desk.finish();
    }

    private static void due(String text, int place, int code) {
        Desk d = new Desk();
        d.type("A", -1);
        d.member("m", 0, true);
        Desk.due("comment '" + text + "'", d.comment(1, text), -10 - place);
        Desk.due("fault of '" + text + "'", d.x.fault(), code);
        Desk.due("told of '" + text + "'", d.x.told(1, 6), 0);
        Desk.due("tape behind '" + text + "'", d.x.count(2), 0);
    }

    private static void oddBytes() {
        due("\t", 0, 1);
        due("ab\u0000", 2, 1);
        due("ab\u007f", 2, 1);
        due("ab\u00ff", 2, 1);
        due("a\rb", 1, 1);
        due("} }\u001f", 3, 1);
        due("x\u0080\u0080", 1, 1);
    }

    private static void depths() {
        due(" - a", 1, 3);
        due("  - a", 2, 3);
        due("a\n  - b", 4, 3);
        due("- a\n - b", 5, 3);
        due("- a\n   - b", 7, 3);
        due("- a\n    - b", 8, 3);
        due("- a\n\n  - b", 7, 3);
        due("- a\n\nb\n  - c", 9, 3);
        due("- a\n  - b\n    - c\n      - d", 24, 3);
        due("-\n  -\n\n  -", 9, 3);
        due("{inherit}\n  -", 12, 3);
    }

    private static void order() {
        due("@return\n\ntext", 9, 2);
        due("@return\n\n  text", 11, 2);
        due("@return\n- item", 8, 2);
        due("@return\n   - item", 11, 2);
        due("@return\n\n- item", 9, 2);
        due("@return\n\n{inherit}", 9, 2);
        due("@see A\nmore", 7, 2);
        due("@since 1\n  more", 11, 2);
        due("@see A\n@see B\n}", 14, 2);
    }

    private static void tags() {
        due("@", 0, 2);
        due("@ return", 0, 2);
        due("  @returns", 2, 2);
        due("@Return", 0, 2);
        due("@retur", 0, 2);
        due("@return{code x}", 0, 2);
        due("@code x", 0, 2);
        due("@param", 6, 2);
        due("@param\nx", 6, 2);
        due("@param   ", 9, 2);
        due("@param  \n", 8, 2);
        due("@param 1", 7, 2);
        due("@param   a.b c", 9, 2);
        due("@param a{code x}", 7, 2);
        due("@param abcdefghijk", 7, 2);
        due("@throws", 7, 2);
        due("@throws A.", 8, 2);
        due("@throws A.b.c", 8, 2);
        due("@see {link A}", 5, 2);
        due("@see a b", 7, 2);
        due("@see a  }", 8, 2);
        due("@since 12345", 7, 2);
        due("@since 1a", 7, 2);
        due("@since -1", 7, 2);
        due("@since 1 x", 9, 2);
    }

    private static void pieces() {
        due("}", 0, 2);
        due("a}", 1, 2);
        due("a {", 2, 2);
        due("{}", 0, 2);
        due("{code}", 0, 2);
        due("{code }", 0, 2);
        due("{code x", 0, 2);
        due("{code x\n}", 0, 2);
        due("{code {x}", 0, 2);
        due("{code x}}", 8, 2);
        due("{Code x}", 0, 2);
        due("{code " + "x".repeat(61) + "}", 0, 2);
        due("{link }", 0, 2);
        due("{link A", 0, 2);
        due("{link A\n}", 0, 2);
        due("{link A }", 0, 2);
        due("{link  A}", 0, 2);
        due("{link A x }", 0, 2);
        due("{link A {x}}", 0, 2);
        due("{link A x{y}", 0, 2);
        due("{link A. x}", 0, 2);
        due("{link 1}", 0, 2);
        due("{link A, x}", 0, 2);
        due("{link A " + "y".repeat(61) + "}", 0, 2);
        due("{link Abcdefghijk}", 0, 2);
        due("- x{lin A}", 3, 2);
        due("@return x\n y {inherit}", 13, 2);
    }

    private static void inherit() {
        due("{inherit} x", 0, 2);
        due("{inherit}\nx", 0, 2);
        due("{inherit}\n  -x", 0, 2);
        due("{inherit}.", 0, 2);
        due("x {inherit}", 2, 2);
        due("x\n{inherit}", 2, 2);
        due("- {inherit}", 2, 2);
        due("{inherit }", 0, 2);
        due("{Inherit}", 0, 2);
        due("{inherit}{inherit}", 0, 2);
        due("{inherit}\n\n{inherit}", 11, 5);
        due("{inherit}\n\n {inherit}\n\n}", 12, 5);
        due("{inherit}\n\n{inherit} x", 11, 2);
        due("{inherit}\n\n{inherit}\nx", 11, 2);
        Desk d = new Desk();
        d.type("A", -1);
        Desk.due("of a type", d.comment(0, "x\n\n{inherit}"), -13);
        Desk.due("fault of a type", d.x.fault(), 2);
    }

    private static void tooMany() {
        due("-\n".repeat(25), 48, 4);
        due("-\n".repeat(24) + " -", 49, 3);
        due("-\n".repeat(24) + "\n}", 49, 2);
        due("-\n".repeat(24) + "\nx }", 49, 4);
        due("{inherit}\n" + "-\n".repeat(23) + "\n{inherit}", 57, 4);
        due("@return\n" + "@see A\n".repeat(23) + "@return", 169, 4);
        due("@return\n" + "@see A\n".repeat(23) + "@retur", 169, 2);
        due("@see A\n".repeat(24) + "@see", 168, 4);
        due("x ".repeat(121), 240, 4);
        due("x ".repeat(120) + "\n\n- x", 244, 4);
        due("x ".repeat(120) + "}", 240, 2);
        due("x ".repeat(120) + "{code }", 240, 2);
        due("x ".repeat(120) + "{code x}", 240, 4);
        due("x ".repeat(120) + "\n@return\n@return", 249, 5);
    }

    private static void twice() {
        due("@return\n@return", 8, 5);
        due("@since 1\n  @since", 11, 5);
        due("@since 1\n@since x", 9, 5);
        due("@return\n@return }", 8, 5);
        due("@param a\n@param b\n@param a c", 18, 5);
        due("@param a\n@param a }", 9, 5);
        due("@param a\n@param", 15, 2);
    }

    private static void latest() {
        Desk d = new Desk();
        d.type("A", -1);
        d.comment(0, "}");
        Desk.due("fault", d.x.fault(), 2);
        d.comment(1, "\t");
        Desk.due("fault behind a BAD one", d.x.fault(), 2);
        d.comment(0, "\t");
        Desk.due("fault of the latest", d.x.fault(), 1);
        d.comment(0, "x");
        Desk.due("no fault", d.x.fault(), 0);
    }
}
