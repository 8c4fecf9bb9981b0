/** Promises 8 to 11: feed, end, row, slips. */
public final class TapeTest {
    private static final Check c = new Check();

    public static void main(String[] args) {
        feeding();
        rows();
        fullShelf();
        c.finish("TapeTest");
    }

    private static void feeding() {
        PeopleLent x = new PeopleLent();
        c.due("end(0)", x.end(0), 0);
        c.due("end(1)", x.end(1), -1);
        for (int n = 20; n <= 400; n += 20) {
            c.due("feed", x.feed(0, 0, 0, 0, 0), n);
        }
        c.due("feed beyond 400", x.feed(0, 0, 0, 0, 0), -1);
        c.due("count(6)", x.count(6), 400);
        c.due("end(401)", x.end(401), -1);
        c.due("end(-1)", x.end(-1), -1);
        c.due("end(381)", x.end(381), 381);
        c.due("feed to 401", x.feed(0, 0, 0, 0, 0), -1);
        c.due("end(380)", x.end(380), 380);
        c.due("feed to 400", x.feed(0, 0, 0, 0, 0), 400);
        c.due("status is not touched", x.status(), 0);
        c.due("nothing is refused", x.count(7), 0);
    }

    private static void rows() {
        PeopleLent x = new PeopleLent();
        c.due("row of nothing", x.row(), -6);
        c.due("status", x.status(), -6);
        // The highest byte comes first; purses are by ten, 99 at most.
        x.feed(0x093F3F63, 0x09000064, 0x01020300, 0x0A000000, 0x01400000);
        x.feed(0x01004000, 0xFF000000, 0x02050607, 0x01010000, 0);
        x.end(35);
        c.due("row", x.row(), 3);
        c.due("slips", x.slips(), 6);
        c.due("tape", x.count(6), 0);
        int[][] due = {{9, 63, 63, 990}, {1, 2, 3, 0}, {2, 5, 6, 70}};
        for (int b = 0; b < 3; b++) {
            for (int what = 0; what < 4; what++) {
                c.due("of(" + b + ", " + what + ")", x.of(b, what), due[b][what]);
            }
        }
        c.due("row of nothing", x.row(), -6);
        c.due("slips of the latest that was not refused", x.slips(), 6);
        x.feed(0, 0, 0, 0, 0);
        x.end(1);
        x.pass();
        c.due("row of slips alone", x.row(), 0);
        c.due("slips", x.slips(), 1);
        c.due("status", x.status(), 0);
        c.due("nothing ahead of a row can be undone", x.undo(), -3);
        x.feed(0x01000000, 0, 0, 0, 0);
        x.end(4);
        c.due("row", x.row(), 1);
        c.due("no slips", x.slips(), 0);
    }

    private static void fullShelf() {
        PeopleLent x = new PeopleLent();
        int one = 0x01000001;
        x.feed(one, one, one, one, one);
        x.feed(one, one, one, one, one);
        c.due("row", x.row(), 8);
        c.due("slips", x.slips(), 2);
        x.feed(one, one, one, one, one);
        c.due("row without room", x.row(), 0);
        c.due("slips", x.slips(), 5);
        c.due("not refused", x.count(10), 0);
    }
}
