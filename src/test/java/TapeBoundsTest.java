/** The bounds of a new object, of THE TAPE and of its counts, a sentence each: promises 1, 2, 3 and 21. */
public final class TapeBoundsTest {
    private static final int X4 = 0x78787878;
    private static final int[] FAR = {Integer.MIN_VALUE, Integer.MIN_VALUE + 1, -601, -2, Integer.MAX_VALUE - 1,
        Integer.MAX_VALUE};

    public static void main(String[] args) {
        newObjectHasNothing();
        tapeHas600();
        feedIsFull();
        fullFeedChangesNothing();
        highestComesFirst();
        comesBehind();
        endKeepsTheFirst();
        endIsBad();
        endTellsWhatItHad();
        counts();
        countIsBad();
        Desk.finish();
    }

    private static void newObjectHasNothing() {
        Desk.sentence("No ENTRIES, nothing on THE TAPE, no PAGE");
        DocFormat x = new DocFormat();
        for (int what = 0; what < 4; what++) {
            Desk.due("count " + what, x.count(what), 0);
        }
        for (int what = 0; what < 5; what++) {
            Desk.due("about " + what, x.about(what), 0);
        }
        Desk.due("told", x.told(0, 0), -9);
        Desk.due("block", x.block(0, 0, 0), -9);
        Desk.due("piece", x.piece(0, 0, 0), -9);
        Desk.due("leads", x.leads(0), -9);
        Desk.due("bare", x.bare(0), DocFormat.BAD);
        Desk.due("page", x.page(0, 12, 0), DocFormat.BAD);
        Desk.due("notes", x.notes(0), DocFormat.BAD);
        Desk.due("note", x.note(0, 0), DocFormat.BAD);
        Desk.due("at", x.at(0), 0);
        Desk.due("line", x.line(0), DocFormat.BAD);
        Desk.due("target 0", x.target(0), DocFormat.BAD);
        Desk.due("target 1", x.target(1), DocFormat.BAD);
        Desk.due("fault", x.fault(), 0);
        Desk.due("type of an empty tape", x.type(DocFormat.NONE), DocFormat.BAD);
    }

    private static int feedX(DocFormat x) {
        return x.feed(X4, X4, X4, X4, X4);
    }

    private static void tapeHas600() {
        Desk.sentence("THE TAPE has 600 bytes");
        DocFormat x = new DocFormat();
        for (int had = 0; had < 600; had += 20) {
            Desk.due("feed at " + had, feedX(x), had + 20);
            Desk.due("tape", x.count(2), had + 20);
        }
    }

    private static void feedIsFull() {
        Desk.sentence("FULL: more than 600");
        int[] within = {0, 1, 20, 579, 580};
        int[] beyond = {581, 582, 599, 600};
        for (int had : within) {
            Desk.due("feed at " + had, feedX(tapeOf(had)), had + 20);
        }
        for (int had : beyond) {
            DocFormat x = tapeOf(had);
            Desk.due("feed at " + had, feedX(x), DocFormat.FULL);
            Desk.due("tape", x.count(2), had);
        }
    }

    private static DocFormat tapeOf(int size) {
        DocFormat x = new DocFormat();
        for (int had = 0; had < size; had += 20) {
            feedX(x);
        }
        x.end(size);
        return x;
    }

    /** The word of a full tape is read behind the refused feed: not one of its bytes may have come. */
    private static void fullFeedChangesNothing() {
        Desk.sentence("what is refused changes nothing: feed");
        Desk d = Desk.small();
        d.tape("x".repeat(590) + "y");
        d.refused("feed at 591", DocFormat.FULL, 591, () -> d.x.feed(0x7A7A7A7A, 0, 0, 0, 0));
        d.x.comment(1);
        Desk.due("page", d.page(1, 12, 0), "A.m\n\n" + "x".repeat(590) + "y\n");
    }

    private static void highestComesFirst() {
        Desk.sentence("Twenty bytes come behind THE TAPE, of each number the highest first");
        Desk d = Desk.small();
        d.x.feed(0x61626364, 0x65666768, 0x696A6B6C, 0x6D6E6F70, 0x71727374);
        d.x.comment(1);
        Desk.due("page", d.page(1, 20, 0), "A.m\n\nabcdefghijklmnopqrst\n");
        // The only byte that is none of a comment stands at each place once, 255 of a number below 0 too.
        for (int i = 0; i < 20; i++) {
            for (int odd : new int[] {0, 127, 128, 255}) {
                int[] n = {X4, X4, X4, X4, X4};
                int shift = 24 - 8 * (i % 4);
                n[i / 4] = n[i / 4] & ~(255 << shift) | odd << shift;
                d.x.feed(n[0], n[1], n[2], n[3], n[4]);
                Desk.due("place of byte " + odd, d.x.comment(1), -10 - i);
                Desk.due("code of byte " + odd, d.x.fault(), 1);
            }
        }
    }

    private static void comesBehind() {
        Desk.sentence("Twenty bytes come behind THE TAPE: how many it has");
        Desk d = Desk.small();
        d.tape("ab");
        Desk.due("feed", d.x.feed(0x63646566, 0x20202020, 0x20202020, 0x20202020, 0x20202020), 22);
        d.x.comment(1);
        Desk.due("page", d.page(1, 12, 0), "A.m\n\nabcdef\n");
    }

    private static void endKeepsTheFirst() {
        Desk.sentence("THE TAPE keeps its first n bytes");
        for (int n = 1; n <= 10; n++) {
            Desk d = new Desk();
            d.x.feed(0x41424344, 0x45464748, 0x494A4B4C, 0x4D4E4F50, 0x51525354);
            d.x.end(n);
            Desk.due("tape", d.x.count(2), n);
            d.x.type(DocFormat.NONE);
            Desk.due("name", d.page(0, 12, 0), "ABCDEFGHIJ".substring(0, n) + "\n");
        }
        Desk d = Desk.small();
        d.tape("abc");
        d.x.end(0);
        Desk.due("blocks of nothing", d.x.comment(1), 0);
        d.tape("abc");
        d.x.end(3);
        d.x.comment(1);
        Desk.due("all stay", d.page(1, 12, 0), "A.m\n\nabc\n");
        d.tape("x".repeat(599) + "y");
        Desk.due("end 600", d.x.end(600), 600);
        Desk.due("end 599", d.x.end(599), 600);
        d.x.comment(1);
        Desk.due("599 stay", d.page(1, 12, 0), "A.m\n\n" + "x".repeat(599) + "\n");
    }

    private static void endIsBad() {
        Desk.sentence("BAD: n is not 0 up to what it has");
        for (int size : new int[] {0, 1, 20, 600}) {
            DocFormat x = tapeOf(size);
            Desk.due("end -1 of " + size, x.end(-1), DocFormat.BAD);
            Desk.due("end one beyond " + size, x.end(size + 1), DocFormat.BAD);
            for (int n : FAR) {
                Desk.due("end " + n + " of " + size, x.end(n), DocFormat.BAD);
            }
            Desk.due("tape behind refused ends", x.count(2), size);
            Desk.due("end at " + size, x.end(size), size);
            Desk.due("end 0 of " + size, x.end(0), size);
            Desk.due("tape", x.count(2), 0);
        }
    }

    private static void endTellsWhatItHad() {
        Desk.sentence("how many it had");
        DocFormat x = tapeOf(20);
        Desk.due("end 20", x.end(20), 20);
        Desk.due("end 5", x.end(5), 20);
        Desk.due("end 6, which were there", x.end(6), DocFormat.BAD);
        Desk.due("end 5 again", x.end(5), 5);
        Desk.due("end 4", x.end(4), 5);
        Desk.due("end 0", x.end(0), 4);
        Desk.due("end 0 again", x.end(0), 0);
    }

    private static void counts() {
        Desk.sentence("0 ENTRIES, 1 TYPES, 2 bytes on THE TAPE, 3 COMMENTS");
        Desk d = new Desk();
        for (int i = 0; i < 20; i++) {
            d.type("T" + i, DocFormat.NONE);
            d.member("m", 2 * i, false);
            d.tape("x".repeat(i));
            Desk.due("entries", d.x.count(0), 2 * i + 2);
            Desk.due("types", d.x.count(1), i + 1);
            Desk.due("bytes", d.x.count(2), i);
        }
        for (int i = 0; i < 40; i++) {
            d.comment(i, i % 2 == 0 ? "" : "x");
            Desk.due("comments", d.x.count(3), i + 1);
        }
        d.comment(0, "again");
        Desk.due("comments, one anew", d.x.count(3), 40);
        d.comment(0, "}");
        Desk.due("comments, one refused", d.x.count(3), 40);
        for (int i = 0; i < 40; i++) {
            d.x.bare(i);
            Desk.due("comments, one less", d.x.count(3), 39 - i);
        }
        d.comment(3, "}");
        Desk.due("no comment by a refused one", d.x.count(3), 0);
    }

    private static void countIsBad() {
        Desk.sentence("count: BAD");
        Desk d = Desk.small();
        d.refused("count -1", DocFormat.BAD, 0, () -> d.x.count(-1));
        d.refused("count 4", DocFormat.BAD, 0, () -> d.x.count(4));
        for (int what : FAR) {
            Desk.due("count " + what, d.x.count(what), DocFormat.BAD);
        }
    }
}
