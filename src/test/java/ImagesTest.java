/** Promises 34 to 37: image, back, count, status. */
public final class ImagesTest {
    private static final Check c = new Check();

    public static void main(String[] args) {
        refusals();
        keeps();
        keepsLaws();
        leavesOut();
        status();
        counts();
        c.finish("ImagesTest");
    }

    private static void refusals() {
        PeopleLent x = new PeopleLent();
        c.due("image(-1)", x.image(-1), -1);
        c.due("image(2)", x.image(2), -1);
        c.due("back(-1)", x.back(-1), -1);
        c.due("back(2)", x.back(2), -1);
        c.due("back(0)", x.back(0), -2);
        c.due("back(1)", x.back(1), -2);
        c.due("image(1)", x.image(1), 0);
        c.due("back(0)", x.back(0), -2);
        c.due("back(1)", x.back(1), 0);
        c.due("status", x.status(), 0);
    }

    private static void keeps() {
        PeopleLent x = new PeopleLent();
        x.book(1, 0, 3, 50);
        x.book(2, 0, 4, 60);
        x.reader(0, 0);
        x.reader(8, 1);
        x.terms(0, 5);
        x.terms(1, 2);
        x.terms(2, 7);
        x.terms(3, 9);
        x.waits(1, 1);
        x.waits(0, 1);
        x.lend(0, 0);
        x.image(0);
        x.terms(0, 9);
        x.terms(1, 1);
        x.terms(2, 0);
        x.terms(3, 0);
        x.waits(1, 0);
        x.lend(0, 1);
        x.book(9, 9, 9, 9);
        x.reader(9, 0);
        x.image(1);
        c.due("back(0)", x.back(0), 0);
        int[] due = {2, 2, 1, 2, 0, 0, 0, 0, 0, 0, 0, 0, -1, 5, 2, 7, 9};
        for (int what = 0; what < due.length; what++) {
            c.due("count(" + what + ")", x.count(what), due[what]);
        }
        int[] reader = {0, 0, 0, 0, 5, 0};
        for (int what = 0; what < reader.length; what++) {
            c.due("at(0, " + what + ")", x.at(0, what), reader[what]);
        }
        c.due("purse", x.of(0, 3), 50);
        x.pass();
        c.due("images stay", x.back(1), 0);
        c.due("books", x.count(0), 3);
        c.due("with", x.at(0, 3), 1);
        c.due("traits", x.at(0, 0), 3);
        c.due("waiting", x.count(3), 2);
        c.due("week", x.count(13), 9);
        c.due("images stay", x.back(0), 0);
        c.due("week", x.count(13), 5);
    }

    private static void keepsLaws() {
        PeopleLent x = new PeopleLent();
        x.book(1, 0, 0, 0);
        x.reader(0, 0);
        Check.law(x, "fines 10");
        x.force(0);
        x.image(0);
        Check.law(x, "fines 20");
        x.force(1);
        x.image(1);
        c.due("back", x.back(0), 0);
        c.due("laws", x.count(4), 1);
        c.due("force", x.count(12), 0);
        c.due("fines", x.asks(0, 0, 0), 10);
        c.due("another law 1", Check.law(x, "fines 30"), 1);
        x.force(1);
        c.due("fines", x.asks(0, 0, 0), 30);
        x.back(1);
        c.due("the law of then", x.asks(0, 0, 0), 20);
        x.back(0);
        c.due("no law 1", x.force(1), -2);
        x.force(-1);
        x.image(0);
        x.force(0);
        x.back(0);
        c.due("none in force", x.count(12), -1);
    }

    private static void leavesOut() {
        PeopleLent x = new PeopleLent();
        x.pass();
        x.image(0);
        c.due("an image leaves undos", x.count(5), 1);
        x.pass();
        Check.orders(x, "pass 1");
        Check.orders(x, "pass; bring 0");
        x.feed(0, 0, 0, 0, 0);
        x.row();
        x.pass();
        x.feed(0, 0, 0, 0, 0);
        x.end(7);
        x.back(0);
        c.due("tape", x.count(6), 7);
        c.due("slips", x.slips(), 5);
        c.due("fault", x.fault(), -1);
        c.due("stopped", x.stopped(), 1);
        c.due("refused by -3", x.count(9), 1);
        c.due("refused by -6", x.count(11), 1);
        c.due("nothing can be undone", x.count(5), 0);
        c.due("nothing can be undone", x.undo(), -3);
    }

    private static void status() {
        PeopleLent x = new PeopleLent();
        c.due("ahead of any", x.status(), 0);
        x.book(0, 0, 0, 0);
        c.due("book", x.status(), -1);
        x.of(9, 9);
        x.at(9, 9);
        x.asks(9, 9, 9);
        x.feed(0, 0, 0, 0, 0);
        x.end(0);
        x.slips();
        x.fault();
        x.stopped();
        x.served(0);
        x.turn(0);
        x.way(0, 0, 0);
        x.sets(0, 0, 0);
        x.ask(0, 0, 0);
        x.last(0, 0);
        x.nest(0);
        x.all(0);
        x.owed(0);
        x.whole(0, 0);
        x.drawn(0, 0);
        x.count(0);
        c.due("others leave it", x.status(), -1);
        c.due("others are not refused", x.count(7), 1);
        x.book(1, 0, 0, 0);
        c.due("book", x.status(), 0);
        x.reader(0, 5);
        c.due("reader", x.status(), -1);
        x.reader(0, 0);
        c.due("reader", x.status(), 0);
        x.terms(9, 9);
        c.due("terms", x.status(), -1);
        x.terms(0, 0);
        c.due("terms", x.status(), 0);
        x.row();
        c.due("row", x.status(), -6);
        x.force(-1);
        c.due("force", x.status(), 0);
        x.force(0);
        c.due("force", x.status(), -2);
        Check.law(x, "bars");
        c.due("law", x.status(), 0);
        x.law();
        c.due("law", x.status(), -6);
        Check.orders(x, "pass");
        c.due("orders", x.status(), 0);
        x.orders();
        c.due("orders", x.status(), -6);
        x.lend(0, 0);
        c.due("lend", x.status(), 0);
        x.lend(0, 0);
        c.due("lend", x.status(), -3);
        x.bring(0);
        c.due("bring", x.status(), 0);
        x.bring(0);
        c.due("bring", x.status(), -3);
        x.waits(0, 0);
        c.due("waits", x.status(), 0);
        x.waits(0, 0);
        c.due("waits", x.status(), -3);
        x.pass();
        c.due("pass", x.status(), 0);
        x.years(0, 0);
        c.due("years", x.status(), -1);
        x.years(0, 1);
        c.due("years", x.status(), 0);
        x.image(2);
        c.due("image", x.status(), -1);
        x.image(0);
        c.due("image", x.status(), 0);
        x.back(1);
        c.due("back", x.status(), -2);
        x.undo();
        c.due("undo", x.status(), 0);
        x.back(5);
        x.back(0);
        c.due("back", x.status(), 0);
        x.undo();
        c.due("undo", x.status(), -3);
    }

    private static void counts() {
        PeopleLent x = new PeopleLent();
        c.due("count(-1)", x.count(-1), -1);
        c.due("count(17)", x.count(17), -1);
        c.due("far", x.count(Integer.MAX_VALUE), -1);
        c.due("far", x.count(Integer.MIN_VALUE), -1);
        x.book(1, 0, 0, 0);
        x.book(0, 0, 0, 0);
        x.reader(0, 0);
        x.reader(0, 0);
        x.lend(0, 0);
        x.lend(9, 0);
        x.lend(9, 0);
        x.waits(0, 1);
        x.waits(0, 1);
        x.waits(0, 1);
        x.waits(0, 1);
        Check.law(x, "bars");
        Check.law(x, "bars x");
        x.force(0);
        x.feed(0, 0, 0, 0, 0);
        int[] due = {1, 2, 1, 1, 1, 2, 20, 1, 2, 3, 0, 1, 0, 0, 3, 1, 0};
        for (int what = 0; what < due.length; what++) {
            c.due("count(" + what + ")", x.count(what), due[what]);
        }
    }
}
