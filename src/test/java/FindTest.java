/** Promises 22, 24 to 29 and 31: served, way, sets, ask, last, nest, all, whole. */
public final class FindTest {
    private static final Check c = new Check();

    public static void main(String[] args) {
        served();
        ways();
        sets();
        nests();
        all();
        whole();
        c.finish("FindTest");
    }

    private static void rowDue(String name, PeopleLent x, int... due) {
        for (int what = 0; what < due.length; what++) {
            c.due(name + ": served(" + what + ")", x.served(what), due[what]);
        }
        c.due(name + ": beyond", x.served(due.length), -1);
        c.due(name + ": below", x.served(-1), -1);
    }

    private static void served() {
        PeopleLent x = new PeopleLent();
        rowDue("nothing", x, 0);
        x.reader(1, 0);
        rowDue("no books", x, 0, 100);
        x.book(1, 0, 0, 0);
        x.book(1, 1, 0, 0);
        x.reader(0, 0);
        rowDue("the first gives way", x, 2, 1, 0);
        x.reader(63, 1);
        rowDue("a rare one is not served", x, 2, 1, 0, 100);
        x.reader(1, 0);
        rowDue("the first as a row", x, 2, 0, 100, 100, 1);
        x.lend(0, 0);
        rowDue("one with a book", x, 1, 100, 100, 100, 1);
        Check.law(x, "bars if reader=3");
        x.force(0);
        rowDue("barred", x, 0, 100, 100, 100, 100);
        c.due("nothing is changed", x.count(2), 1);
    }

    private static void wayDue(String name, PeopleLent x, int from, int to, int weeks, int... books) {
        c.due(name, x.way(from, to, -1), weeks);
        for (int i = 0; i < books.length; i++) {
            c.due(name + ": " + i, x.way(from, to, i), books[i]);
        }
        c.due(name + ": beyond", x.way(from, to, books.length), -1);
        c.due(name + ": -2", x.way(from, to, -2), -1);
    }

    private static void ways() {
        PeopleLent x = new PeopleLent();
        wayDue("to nothing", x, 0, 0, 0);
        wayDue("to what is there", x, 7, 5, 0);
        wayDue("no way", x, 0, 1, -1);
        x.book(9, 0, 7, 0);
        x.book(3, 0, 1, 0);
        x.book(3, 1, 2, 0);
        x.book(3, 3, 4, 0);
        wayDue("as many weeks: the fewest books", x, 0, 7, 9, 0);
        wayDue("fewer weeks", x, 0, 3, 6, 1, 2);
        wayDue("from there", x, 1, 4, 6, 2, 3);
        wayDue("others, too", x, 32, 4, 9, 0);
        x.book(3, 0, 3, 0);
        wayDue("quicker", x, 0, 4, 6, 4, 3);
        x.book(3, 0, 3, 0);
        x.book(3, 2, 4, 0);
        wayDue("the first as a row", x, 0, 4, 6, 4, 3);
        x.book(1, 32, 63, 0);
        wayDue("by what it is", x, 32, 31, 1, 7);
        c.due("from -1", x.way(-1, 0, -1), -1);
        c.due("from 64", x.way(64, 0, -1), -1);
        c.due("to -1", x.way(0, -1, -1), -1);
        c.due("to 64", x.way(0, 64, -1), -1);
        PeopleLent y = new PeopleLent();
        for (int b = 0; b < 6; b++) {
            y.book(9, (1 << b) - 1, 1 << b, 0);
        }
        wayDue("a long way", y, 0, 63, 54, 0, 1, 2, 3, 4, 5);
    }

    private static void setsDue(String name, PeopleLent x, int reader, int from, int... sets) {
        c.due(name, x.sets(reader, from, -1), sets.length);
        for (int i = 0; i < sets.length; i++) {
            c.due(name + ": " + i, x.sets(reader, from, i), sets[i]);
        }
        c.due(name + ": beyond", x.sets(reader, from, sets.length), -1);
        c.due(name + ": -2", x.sets(reader, from, -2), -1);
    }

    private static void askDue(String name, PeopleLent x, int reader, int from, int book, int left, int last) {
        c.due(name + ": ask", x.ask(reader, from, 0), book);
        c.due(name + ": left", x.ask(reader, from, 1), left);
        c.due(name + ": last", x.last(reader, from), last);
        c.due(name + ": ask(-1)", x.ask(reader, from, -1), -1);
        c.due(name + ": ask(2)", x.ask(reader, from, 2), -1);
    }

    private static void sets() {
        PeopleLent x = new PeopleLent();
        x.reader(3, 0);
        x.reader(4, 0);
        setsDue("no books, the same", x, 0, 3, 0);
        askDue("no books", x, 0, 3, -1, -1, 0);
        setsDue("no books, others", x, 0, 1);
        x.book(1, 1, 2, 0);
        x.book(1, 0, 1, 0);
        x.book(1, 2, 0, 0);
        x.book(1, 8, 0, 0);
        setsDue("in an order", x, 0, 0, 3, 7);
        askDue("in an order", x, 0, 0, 2, 1, 1 + 4);
        setsDue("from 1", x, 0, 1, 1, 3, 5, 7);
        askDue("from 1", x, 0, 1, 1, 2, 1 + 2 + 4);
        setsDue("what it has not", x, 0, 8);
        askDue("no sets", x, 0, 8, -1, -1, 0);
        setsDue("another reader", x, 1, 4, 0);
        askDue("nothing but the empty set", x, 1, 4, 0, 1, 0);
        c.due("no reader", x.sets(2, 0, -1), -1);
        c.due("no reader", x.sets(-1, 0, -1), -1);
        c.due("from -1", x.sets(0, -1, -1), -1);
        c.due("from 64", x.sets(0, 64, -1), -1);
        c.due("ask no reader", x.ask(2, 0, 0), -1);
        c.due("ask from -1", x.ask(0, -1, 0), -1);
        c.due("ask from 64", x.ask(0, 64, 0), -1);
        c.due("last no reader", x.last(2, 0), -1);
        c.due("last no reader", x.last(-1, 0), -1);
        c.due("last from -1", x.last(0, -1), -1);
        c.due("last from 64", x.last(0, 64), -1);
        PeopleLent y = new PeopleLent();
        y.reader(0, 0);
        for (int b = 0; b < 8; b++) {
            y.book(1, 0, 0, 0);
        }
        c.due("all sets", y.sets(0, 0, -1), 256);
        c.due("the last set", y.sets(0, 0, 255), 255);
        c.due("the 100th", y.sets(0, 0, 100), 100);
        c.due("ask", y.ask(0, 0, 0), 0);
        c.due("left", y.ask(0, 0, 1), 128);
        c.due("last", y.last(0, 0), 255);
    }

    private static void nestDue(String name, PeopleLent x, int... books) {
        c.due(name, x.nest(-1), books.length);
        for (int i = 0; i < books.length; i++) {
            c.due(name + ": " + i, x.nest(i), books[i]);
        }
        c.due(name + ": beyond", x.nest(books.length), -1);
        c.due(name + ": -2", x.nest(-2), -1);
    }

    private static void nests() {
        PeopleLent x = new PeopleLent();
        nestDue("no books", x);
        x.book(1, 12, 0, 0);
        nestDue("one", x, 0);
        x.book(1, 12, 0, 0);
        nestDue("just as much is not more", x, 0);
        x.book(1, 3, 0, 0);
        nestDue("more by number alone is not more", x, 0);
        x.book(1, 4, 0, 0);
        nestDue("less ahead", x, 3, 0);
        x.book(1, 1, 0, 0);
        nestDue("the first as a row", x, 3, 0);
        x.book(1, 63, 0, 0);
        nestDue("three", x, 3, 0, 5);
        x.book(1, 0, 0, 0);
        nestDue("four", x, 6, 3, 0, 5);
    }

    private static void all() {
        PeopleLent x = new PeopleLent();
        c.due("all(2)", x.all(2), -1);
        c.due("all(-1)", x.all(-1), -1);
        x.book(1, 1, 0, 0);
        c.due("no readers", x.all(0), 0);
        x.reader(0, 0);
        c.due("no one fits", x.all(0), 0);
        c.due("no one fits", x.all(1), 0);
        x.reader(1, 1);
        c.due("a rare one fits", x.all(1), 2);
        x.book(1, 2, 0, 0);
        x.reader(2, 0);
        x.book(1, 32, 0, 0);
        c.due("two", x.all(0), 2);
        c.due("who", x.all(1), 6);
        x.reader(3, 0);
        c.due("one for both", x.all(0), 1);
        c.due("who", x.all(1), 8);
        x.reader(7, 0);
        c.due("the lowest", x.all(1), 8);
    }

    private static void whole() {
        PeopleLent x = new PeopleLent();
        c.due("k 0", x.whole(0, 1), -1);
        c.due("k 21", x.whole(21, 1), -1);
        c.due("n -1", x.whole(1, -1), -1);
        c.due("n 100", x.whole(1, 100), -1);
        c.due("no weeks", x.whole(20, 0), 1000000000000L);
        c.due("one week", x.whole(1, 1), 900000000000L);
        c.due("twice in one week", x.whole(2, 1), 1000000000000L);
        c.due("12 weeks", x.whole(1, 12), 282429536481L);
        c.due("13 weeks are cut", x.whole(1, 13), 254186582832L);
        c.due("14 weeks are cut", x.whole(1, 14), 228767924548L);
        // Each share by itself is cut: 254186582832 and what came of 12 weeks with one tear.
        c.due("once at most in 13 weeks", x.whole(2, 13), 254186582832L + (376572715308L * 9 / 10) + 28242953648L);
        x.terms(2, 0);
        c.due("never torn", x.whole(1, 99), 1000000000000L);
        x.terms(2, 10);
        c.due("always torn", x.whole(1, 1), 0);
        c.due("always torn", x.whole(20, 19), 1000000000000L);
        c.due("always torn", x.whole(20, 20), 0);
    }
}
