/** Promises 1 to 5 and 7: a new object, books, readers, terms. */
public final class BooksTest {
    private static final Check c = new Check();

    public static void main(String[] args) {
        newObject();
        books();
        readers();
        terms();
        c.finish("BooksTest");
    }

    private static void newObject() {
        PeopleLent x = new PeopleLent();
        int[] due = {0, 0, 0, 0, 0, 0, 0, 0, 0, 0, 0, 0, -1, 0, 3, 1, 0};
        for (int what = 0; what < due.length; what++) {
            c.due("new: count(" + what + ")", x.count(what), due[what]);
        }
        c.due("new: status", x.status(), 0);
        c.due("new: fault", x.fault(), -1);
        c.due("new: stopped", x.stopped(), -1);
        c.due("new: slips", x.slips(), 0);
        c.due("NONE", PeopleLent.NONE, -1);
    }

    private static void books() {
        PeopleLent x = new PeopleLent();
        int[][] bad = {{0, 0, 0, 0}, {10, 0, 0, 0}, {1, -1, 0, 0}, {1, 64, 0, 0}, {1, 0, -1, 0}, {1, 0, 64, 0},
            {1, 0, 0, -1}, {1, 0, 0, 1000}, {Integer.MIN_VALUE, 0, 0, 0}, {1, 0, 0, Integer.MAX_VALUE}};
        for (int[] b : bad) {
            c.due("bad book", x.book(b[0], b[1], b[2], b[3]), -1);
        }
        c.due("refused by -1", x.count(7), bad.length);
        c.due("no books", x.count(0), 0);
        c.due("least book", x.book(1, 0, 0, 0), 0);
        c.due("most book", x.book(9, 63, 63, 999), 1);
        int[] due = {9, 63, 63, 999, -1, -1};
        for (int what = 0; what < due.length; what++) {
            c.due("of(1, " + what + ")", x.of(1, what), due[what]);
        }
        c.due("of(1, -1)", x.of(1, -1), -1);
        c.due("of(2, 0)", x.of(2, 0), -1);
        c.due("of(-1, 0)", x.of(-1, 0), -1);
        for (int b = 2; b < 8; b++) {
            c.due("book", x.book(2, 0, 0, 0), b);
        }
        c.due("ninth book", x.book(2, 0, 0, 0), -5);
        c.due("status", x.status(), -5);
        c.due("bad ninth book", x.book(0, 0, 0, 0), -1);
        c.due("of(7, 0)", x.of(7, 0), 2);
        c.due("of(8, 0)", x.of(8, 0), -1);
    }

    private static void readers() {
        PeopleLent x = new PeopleLent();
        c.due("traits -1", x.reader(-1, 0), -1);
        c.due("traits 64", x.reader(64, 0), -1);
        c.due("rare -1", x.reader(0, -1), -1);
        c.due("rare 2", x.reader(0, 2), -1);
        c.due("reader", x.reader(63, 0), 0);
        c.due("rare reader", x.reader(5, 1), 1);
        int[] due = {5, 1, 0, -1, -1, 0, -1};
        for (int what = 0; what < due.length; what++) {
            c.due("at(1, " + what + ")", x.at(1, what), due[what]);
        }
        c.due("at(1, -1)", x.at(1, -1), -1);
        c.due("at(2, 0)", x.at(2, 0), -1);
        c.due("at(-1, 0)", x.at(-1, 0), -1);
        for (int r = 2; r < 6; r++) {
            c.due("reader", x.reader(0, 0), r);
        }
        c.due("seventh reader", x.reader(0, 0), -5);
        c.due("bad seventh reader", x.reader(0, 2), -1);
        c.due("at(6, 0)", x.at(6, 0), -1);
        x.book(1, 0, 0, 0);
        x.terms(0, 7);
        x.lend(3, 0);
        c.due("reader with book 0", x.of(0, 4), 3);
        c.due("book of reader 3", x.at(3, 3), 0);
        c.due("since", x.at(3, 4), 7);
    }

    private static void terms() {
        PeopleLent x = new PeopleLent();
        int[] least = {0, 1, 0, 0};
        int[] most = {999, 20, 10, 9};
        int[] first = {0, 3, 1, 0};
        for (int what = 0; what < 4; what++) {
            c.due("below", x.terms(what, least[what] - 1), -1);
            c.due("above", x.terms(what, most[what] + 1), -1);
            c.due("unchanged", x.count(13 + what), first[what]);
            c.due("least", x.terms(what, least[what]), first[what]);
            c.due("most", x.terms(what, most[what]), least[what]);
            c.due("count", x.count(13 + what), most[what]);
        }
        c.due("terms(-1, 1)", x.terms(-1, 1), -1);
        c.due("terms(4, 1)", x.terms(4, 1), -1);
        c.due("status", x.status(), -1);
        c.due("refused", x.count(7), 10);
    }
}
