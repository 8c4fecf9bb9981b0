/** Terms, I: books, readers, who waits, terms, and by what a call is refused. */
final class ShelfSentences {
    private static final int MIN = Integer.MIN_VALUE;
    private static final int MAX = Integer.MAX_VALUE;

    private ShelfSentences() {
    }

    static void run(Sentences s) {
        books(s);
        readers(s);
        waiting(s);
        terms(s);
        refusals(s);
    }

    private static PeopleLent eightBooks() {
        PeopleLent x = new PeopleLent();
        for (int b = 0; b < 8; b++) {
            x.book(1 + b, b, 63 - b, 100 * b);
        }
        return x;
    }

    private static void books(Sentences s) {
        s.says("I. BOOKS 0 .. 7 (8 at most):");
        PeopleLent x = new PeopleLent();
        s.due("none at first", x.of(0, 0), -1);
        for (int b = 0; b < 8; b++) {
            s.due("book " + b, x.book(1, 0, 0, b), b);
            s.due("how many", x.count(0), b + 1);
            s.due("its purse", x.of(b, 3), b);
            s.due("one more", x.of(b + 1, 0), -1);
        }
        s.refused("a ninth", ShelfSentences::eightBooks, y -> y.book(1, 0, 0, 0), -5);
        s.due("of(8, 0)", eightBooks().of(8, 0), -1);

        s.says("LENGTH 1 .. 9,");
        for (int length = 1; length <= 9; length++) {
            PeopleLent y = new PeopleLent();
            s.due("book", y.book(length, 0, 0, 0), 0);
            s.due("of(0, 0)", y.of(0, 0), length);
        }
        for (int length : new int[] {MIN, -1, 0, 10, MAX}) {
            s.refused("length " + length, Worlds::rich, y -> y.book(length, 0, 0, 0), -1);
        }

        s.says("WANTS and GIVES (TRAITS as six bits),");
        for (int bit = 0; bit < 6; bit++) {
            PeopleLent y = new PeopleLent();
            s.due("book", y.book(1, 1 << bit, 63 - (1 << bit), 0), 0);
            s.due("of(0, 1)", y.of(0, 1), 1 << bit);
            s.due("of(0, 2)", y.of(0, 2), 63 - (1 << bit));
        }
        for (int traits : new int[] {MIN, -1, 64, MAX}) {
            s.refused("wants " + traits, Worlds::rich, y -> y.book(1, traits, 0, 0), -1);
            s.refused("gives " + traits, Worlds::rich, y -> y.book(1, 0, traits, 0), -1);
        }
        PeopleLent least = new PeopleLent();
        s.due("all", least.book(1, 63, 63, 0), 0);
        s.due("none", least.book(1, 0, 0, 0), 1);
        s.due("of(0, 1)", least.of(0, 1), 63);
        s.due("of(1, 2)", least.of(1, 2), 0);

        s.says("PURSE 0 .. 999.");
        s.due("999", least.book(1, 0, 0, 999), 2);
        s.due("of(2, 3)", least.of(2, 3), 999);
        s.due("of(1, 3)", least.of(1, 3), 0);
        for (int purse : new int[] {MIN, -1, 1000, MAX}) {
            s.refused("purse " + purse, Worlds::rich, y -> y.book(1, 0, 0, purse), -1);
        }
    }

    private static PeopleLent sixReaders() {
        PeopleLent x = new PeopleLent();
        for (int r = 0; r < 6; r++) {
            x.reader(r, r % 2);
        }
        return x;
    }

    private static void readers(Sentences s) {
        s.says("READERS 0 .. 5 (6 at most): TRAITS as six bits,");
        PeopleLent x = new PeopleLent();
        s.due("none at first", x.at(0, 0), -1);
        for (int r = 0; r < 6; r++) {
            s.due("reader " + r, x.reader(63 - (1 << r), 0), r);
            s.due("how many", x.count(1), r + 1);
            s.due("traits", x.at(r, 0), 63 - (1 << r));
            s.due("one more", x.at(r + 1, 0), -1);
        }
        s.refused("a seventh", ShelfSentences::sixReaders, y -> y.reader(0, 0), -5);
        for (int traits : new int[] {MIN, -1, 64, MAX}) {
            s.refused("traits " + traits, Worlds::rich, y -> y.reader(traits, 0), -1);
        }

        s.says("RARE (1) or not (0),");
        PeopleLent rare = sixReaders();
        for (int r = 0; r < 6; r++) {
            s.due("at(" + r + ", 1)", rare.at(r, 1), r % 2);
        }
        for (int one : new int[] {MIN, -1, 2, MAX}) {
            s.refused("rare " + one, Worlds::rich, y -> y.reader(0, one), -1);
        }

        s.says("WORN 0 .. 99 (0 at first),");
        PeopleLent worn = new PeopleLent();
        worn.book(1, 0, 0, 0);
        worn.reader(0, 0);
        s.due("at first", worn.at(0, 2), 0);
        worn.lend(0, 0);
        Check.law(worn, "wears 20");
        worn.force(0);
        int[] due = {20, 40, 60, 80, 99, 99};
        for (int one : due) {
            worn.pass();
            s.due("worn", worn.at(0, 2), one);
        }

        s.says("WITH a BOOK (no other one is with it) or at the DESK (at first),");
        PeopleLent desk = new PeopleLent();
        desk.book(1, 0, 0, 0);
        desk.reader(0, 0);
        desk.reader(0, 0);
        s.due("at first", desk.at(0, 3), -1);
        s.due("with none at first", desk.of(0, 4), -1);
        s.due("lend", desk.lend(1, 0), 0);
        s.due("another one", desk.lend(0, 0), -3);
        s.due("at(1, 3)", desk.at(1, 3), 0);
        s.due("at(0, 3)", desk.at(0, 3), -1);
        s.due("of(0, 4)", desk.of(0, 4), 1);

        s.says("SINCE a WEEK, READ: BOOKS as bits (none at first).");
        s.due("since week 0", desk.at(1, 4), 0);
        s.due("at the desk", desk.at(0, 4), -1);
        s.due("read at first", desk.at(1, 5), 0);
        PeopleLent eight = eightBooks();
        eight.reader(63, 0);
        for (int b = 0; b < 8; b++) {
            eight.lend(0, b);
            s.due("since", eight.at(0, 4), 20 * b);
            eight.terms(0, 20 * b + 20);
            eight.bring(0);
            s.due("read", eight.at(0, 5), (1 << b + 1) - 1);
        }
        PeopleLent last = Worlds.empty();
        last.book(1, 0, 0, 0);
        last.reader(0, 0);
        last.terms(0, 999);
        last.lend(0, 0);
        s.due("since week 999", last.at(0, 4), 999);
    }

    private static void waiting(Sentences s) {
        s.says("WAITING, 12 at most, in order:");
        PeopleLent x = new PeopleLent();
        for (int b = 0; b < 3; b++) {
            x.book(1, 0, 0, 0);
        }
        for (int r = 0; r < 6; r++) {
            x.reader(0, 0);
        }
        int[] order = {2, 0, 1};
        for (int n = 0; n < 12; n++) {
            s.due("waits", x.waits(order[n % 3], n / 3), n + 1);
        }
        s.due("a thirteenth", x.waits(0, 5), -5);
        s.due("how many", x.count(3), 12);
        s.due("the first in order", x.turn(0), 2);
        s.refused("a thirteenth", Worlds::full, y -> y.waits(5, 0), -5);

        s.says("a BOOK for a READER (each two once).");
        s.refused("the same two", Worlds::rich, y -> y.waits(2, 1), -3);
        PeopleLent two = new PeopleLent();
        two.book(1, 0, 0, 0);
        two.book(1, 0, 0, 0);
        two.reader(0, 0);
        two.reader(0, 0);
        s.due("waits(0, 1)", two.waits(0, 1), 1);
        s.due("waits(1, 0)", two.waits(1, 0), 2);
        s.due("the same book for another one", two.waits(0, 0), 3);
        s.due("another book for the same one", two.waits(1, 1), 4);
        s.due("the first two again", two.waits(0, 1), -3);
        s.due("the last two again", two.waits(1, 1), -3);
    }

    private static void term(Sentences s, int what, int first, int least, int most) {
        PeopleLent x = new PeopleLent();
        s.due("at first", x.count(13 + what), first);
        s.due("the least", x.terms(what, least), first);
        s.due("is", x.count(13 + what), least);
        s.due("the most", x.terms(what, most), least);
        s.due("is", x.count(13 + what), most);
        for (int value : new int[] {MIN, least - 1, most + 1, MAX}) {
            s.refused("terms(" + what + ", " + value + ")", Worlds::rich, y -> y.terms(what, value), -1);
        }
    }

    private static void terms(Sentences s) {
        s.says("TERMS: 0 WEEK 0 .. 999 (0 at first),");
        term(s, 0, 0, 0, 999);
        s.says("1 WEEKS 1 .. 20 (3): how long one may be kept,");
        term(s, 1, 3, 1, 20);
        for (int weeks : new int[] {1, 3, 20}) {
            PeopleLent x = new PeopleLent();
            x.book(9, 0, 0, 999);
            x.reader(0, 0);
            x.terms(1, weeks);
            x.lend(0, 0);
            x.terms(0, weeks);
            s.due("kept as long as may be", x.owed(-1), 0);
            x.terms(0, weeks + 1);
            s.due("kept one week longer", x.owed(-1), 2);
        }
        s.says("2 RATE 0 .. 10 (1),");
        term(s, 2, 1, 0, 10);
        s.says("3 MOOD 0 .. 9 (0).");
        term(s, 3, 0, 0, 9);
    }

    private static PeopleLent sixLaws() {
        PeopleLent x = Worlds.rich();
        x.end(0);
        for (int law = 2; law < 6; law++) {
            Check.law(x, "bars");
        }
        Check.tape(x, "fines");
        return x;
    }

    private static void refusals(Sentences s) {
        s.says("REFUSED by: -1 a number that can't be;");
        s.refused("book", Worlds::rich, x -> x.book(0, 0, 0, 0), -1);
        s.says("-2 there is no such BOOK, READER, LAW, IMAGE;");
        s.refused("book", Worlds::rich, x -> x.lend(0, 3), -2);
        s.refused("reader", Worlds::rich, x -> x.lend(3, 0), -2);
        s.refused("law", Worlds::rich, x -> x.force(2), -2);
        s.refused("image", Worlds::empty, x -> x.back(0), -2);
        s.says("-3 it can't be by what stands;");
        s.refused("bring", Worlds::rich, x -> x.bring(2), -3);
        s.says("-5 no room;");
        s.refused("reader", Worlds::full, x -> x.reader(0, 0), -5);
        s.says("-6 a TEXT, a ROW that can't be.");
        s.lawFault("?", 0);
        s.ordersFault("?", 0);
        s.refused("row", Worlds::empty, x -> x.row(), -6);
        s.says("The first of these in that order.");
        s.refused("-1 ahead of -5: book", Worlds::full, x -> x.book(10, 0, 0, 0), -1);
        s.refused("-1 ahead of -5: reader", Worlds::full, x -> x.reader(0, 2), -1);
        s.refused("-1 ahead of -3: years", Worlds::empty, x -> x.years(-1, 1), -1);
        s.refused("-1 ahead of -3: years", Worlds::empty, x -> x.years(0, 61), -1);
        s.refused("-1 ahead of -2: back", Worlds::empty, x -> x.back(2), -1);
        s.refused("-2 ahead of -3: lend a rare one", Worlds::rich, x -> x.lend(2, 3), -2);
        s.refused("-2 ahead of -3: lend to one that has one", Worlds::rich, x -> x.lend(3, 0), -2);
        s.refused("-2 ahead of -5: waits, no book", Worlds::full, x -> x.waits(8, 0), -2);
        s.refused("-2 ahead of -5: waits, no reader", Worlds::full, x -> x.waits(0, 6), -2);
        s.refused("-3 ahead of -5: waits already", Worlds::full, x -> x.waits(6, 0), -3);
        s.refused("-3 ahead of -5: has that one", Worlds::full, x -> x.waits(0, 0), -3);
        s.due("-5 ahead of -6: law", sixLaws().law(), -5);
    }
}
