import java.util.function.Supplier;

/** Each call that is refused, and each question without an answer: nothing is changed but what the document says. */
public final class RefusedTest {
    private static final Check c = new Check();
    private static final int MIN = Integer.MIN_VALUE;
    private static final int MAX = Integer.MAX_VALUE;

    public static void main(String[] args) {
        worldsAreAsTold();
        numbers(Worlds::empty, "empty");
        numbers(Worlds::rich, "rich");
        numbers(Worlds::full, "full");
        noSuch();
        byWhatStands();
        noRoom();
        texts();
        questions(Worlds::empty, "empty");
        questions(Worlds::rich, "rich");
        questions(Worlds::full, "full");
        c.finish("RefusedTest");
    }

    private static void worldsAreAsTold() {
        int[] rich = {3, 3, 2, 3, 2, 7, 5, 0, 0, 1, 0, 1, 0, 2, 1, 3, 0};
        int[] full = {8, 6, 4, 12, 6, 16, 400, 0, 0, 0, 0, 0, 0, 999, 3, 1, 0};
        for (int what = 0; what < 17; what++) {
            c.due("rich: count(" + what + ")", Worlds.rich().count(what), rich[what]);
            c.due("full: count(" + what + ")", Worlds.full().count(what), full[what]);
        }
    }

    private static void no(String name, Supplier<PeopleLent> world, Still.Deed deed, int why, Object... changes) {
        Still.refused(c, name, world, deed, why, changes);
    }

    private static void numbers(Supplier<PeopleLent> w, String name) {
        int[] lengths = {MIN, -1, 0, 10, MAX};
        int[] traits = {MIN, -1, 64, MAX};
        int[] purses = {MIN, -1, 1000, MAX};
        for (int length : lengths) {
            no(name + ": book, length " + length, w, x -> x.book(length, 0, 0, 0), -1);
        }
        for (int one : traits) {
            no(name + ": book, wants " + one, w, x -> x.book(1, one, 0, 0), -1);
            no(name + ": book, gives " + one, w, x -> x.book(1, 0, one, 0), -1);
            no(name + ": reader, traits " + one, w, x -> x.reader(one, 0), -1);
        }
        for (int purse : purses) {
            no(name + ": book, purse " + purse, w, x -> x.book(1, 0, 0, purse), -1);
        }
        for (int rare : new int[] {MIN, -1, 2, MAX}) {
            no(name + ": reader, rare " + rare, w, x -> x.reader(0, rare), -1);
        }
        for (int what : new int[] {MIN, -1, 4, MAX}) {
            no(name + ": terms, what " + what, w, x -> x.terms(what, 1), -1);
        }
        int[] least = {0, 1, 0, 0};
        int[] most = {999, 20, 10, 9};
        for (int what = 0; what < 4; what++) {
            int one = what;
            for (int value : new int[] {MIN, least[what] - 1, most[what] + 1, MAX}) {
                no(name + ": terms(" + what + ", " + value + ")", w, x -> x.terms(one, value), -1);
            }
        }
        for (int seed : new int[] {MIN, -1, 1000001, MAX}) {
            no(name + ": years, seed " + seed, w, x -> x.years(seed, 1), -1);
        }
        for (int n : new int[] {MIN, -1, 0, 61, MAX}) {
            no(name + ": years, weeks " + n, w, x -> x.years(1, n), -1);
        }
        for (int k : new int[] {MIN, -1, 2, MAX}) {
            no(name + ": image(" + k + ")", w, x -> x.image(k), -1);
            no(name + ": back(" + k + ")", w, x -> x.back(k), -1);
        }
    }

    private static void noSuch() {
        for (int r : new int[] {MIN, -1, 3, MAX}) {
            no("lend, reader " + r, Worlds::rich, x -> x.lend(r, 2), -2);
            no("bring, reader " + r, Worlds::rich, x -> x.bring(r), -2);
            no("waits, reader " + r, Worlds::rich, x -> x.waits(2, r), -2);
            no("lend, book " + r, Worlds::rich, x -> x.lend(1, r), -2);
            no("waits, book " + r, Worlds::rich, x -> x.waits(r, 1), -2);
        }
        for (int law : new int[] {MIN, -2, 2, MAX}) {
            no("force(" + law + ")", Worlds::rich, x -> x.force(law), -2);
        }
        no("force(6) of six", Worlds::full, x -> x.force(6), -2);
        no("force(0) of none", Worlds::empty, x -> x.force(0), -2);
        no("lend, reader 6 of six", Worlds::full, x -> x.lend(6, 4), -2);
        no("lend, book 8 of eight", Worlds::full, x -> x.lend(4, 8), -2);
        no("bring, reader 6 of six", Worlds::full, x -> x.bring(6), -2);
        no("waits, reader 6 of six", Worlds::full, x -> x.waits(0, 6), -2);
        no("waits, book 8 of eight", Worlds::full, x -> x.waits(8, 0), -2);
        no("lend of none", Worlds::empty, x -> x.lend(0, 0), -2);
        no("bring of none", Worlds::empty, x -> x.bring(0), -2);
        no("waits of none", Worlds::empty, x -> x.waits(0, 0), -2);
        no("back(0) of none", Worlds::empty, x -> x.back(0), -2);
        no("back(1) of none", Worlds::empty, x -> x.back(1), -2);
    }

    private static PeopleLent barring() {
        PeopleLent x = Worlds.rich();
        x.terms(3, 9);
        return x;
    }

    private static void byWhatStands() {
        no("lend to a book that has another", Worlds::rich, x -> x.lend(1, 0), -3);
        no("lend to the book it is with", Worlds::rich, x -> x.lend(1, 1), -3);
        no("lend one that does not fit", Worlds::rich, x -> x.lend(0, 2), -3);
        no("lend a rare one", Worlds::rich, x -> x.lend(2, 2), -3);
        no("lend a barred one", RefusedTest::barring, x -> x.lend(1, 2), -3);
        no("lend one worn 99 from the desk", Worlds::full, x -> x.lend(4, 4), -3);
        no("lend one worn 99 from a book", Worlds::full, x -> x.lend(0, 4), -3);
        no("bring from the desk", Worlds::rich, x -> x.bring(2), -3);
        no("waits for the one that it has", Worlds::rich, x -> x.waits(1, 1), -3);
        no("waits already", Worlds::rich, x -> x.waits(1, 0), -3);
        no("pass at week 999", Worlds::full, x -> x.pass(), -3);
        no("undo nothing", Worlds::empty, x -> x.undo(), -3);
        no("undo nothing behind terms", RefusedTest::barring, x -> x.undo(), -3);
        no("years without any", Worlds::empty, x -> x.years(0, 1), -3);
        no("years without readers", RefusedTest::oneBook, x -> x.years(0, 1), -3);
        no("years without books", RefusedTest::oneReader, x -> x.years(0, 1), -3);
    }

    private static PeopleLent oneBook() {
        PeopleLent x = new PeopleLent();
        x.book(1, 0, 0, 0);
        return x;
    }

    private static PeopleLent oneReader() {
        PeopleLent x = new PeopleLent();
        x.reader(0, 0);
        return x;
    }

    private static void noRoom() {
        no("a ninth book", Worlds::full, x -> x.book(1, 0, 0, 0), -5);
        no("a seventh reader", Worlds::full, x -> x.reader(0, 0), -5);
        no("a thirteenth that waits", Worlds::full, x -> x.waits(5, 0), -5);
        Still.refusedBut(c, "a seventh law", Worlds::full, x -> x.end(0), x -> x.law(), -5);
    }

    private static PeopleLent emptyTape() {
        PeopleLent x = Worlds.rich();
        x.end(0);
        return x;
    }

    private static void texts() {
        no("row of an empty tape", RefusedTest::emptyTape, x -> x.row(), -6);
        no("law of an empty tape", RefusedTest::emptyTape, x -> x.law(), -6, "fault()", 0);
        no("orders of an empty tape", RefusedTest::emptyTape, x -> x.orders(), -6, "fault()", 0, "stopped()", -1);
        Still.refusedBut(c, "law with a fault", Worlds::rich, x -> x.end(0), x -> x.law(), -6, "fault()", 0);
        Still.refusedBut(c, "orders with a fault", Worlds::rich, x -> x.end(0), x -> x.orders(), -6,
            "fault()", 0, "stopped()", -1);
        Still.refusedBut(c, "orders of which the last can't be", Worlds::rich, x -> x.end(0),
            x -> ordersOn(x, "wait 0 for 1;pass times 20;bring 0;bring 1;wait 2 for 0;lend 0 to 1;lend 2 to 0"), -3,
            "fault()", -1, "stopped()", 6);
        Still.refusedBut(c, "orders at week 999", Worlds::full, x -> x.end(0), x -> x.orders(), -3, "stopped()", 0);
    }

    private static int ordersOn(PeopleLent x, String text) {
        x.end(0);
        return Check.orders(x, text);
    }

    private static void ask(String name, Supplier<PeopleLent> w, Still.Deed deed) {
        Still.asked(c, name, w, deed, deed.on(w.get()));
    }

    private static void none(String name, Supplier<PeopleLent> w, Still.Deed deed) {
        Still.asked(c, name, w, deed, -1);
    }

    private static void questions(Supplier<PeopleLent> w, String world) {
        for (int one : new int[] {MIN, -2, 8, MAX}) {
            String name = world + " with " + one + ": ";
            none(name + "of", w, x -> x.of(one, 0));
            none(name + "of what", w, x -> x.of(0, one));
            none(name + "at", w, x -> x.at(one, 0));
            none(name + "at what", w, x -> x.at(0, one));
            none(name + "asks, book", w, x -> x.asks(one, 0, 0));
            none(name + "asks, reader", w, x -> x.asks(0, one, 0));
            none(name + "asks what", w, x -> x.asks(0, 0, one));
            none(name + "served", w, x -> x.served(one));
            none(name + "turn", w, x -> x.turn(one));
            none(name + "way, the i-th", w, x -> x.way(0, 7, one));
            none(name + "sets, reader", w, x -> x.sets(one, 0, 0));
            none(name + "ask, reader", w, x -> x.ask(one, 0, 0));
            none(name + "ask what", w, x -> x.ask(0, 0, one));
            none(name + "last, reader", w, x -> x.last(one, 0));
            none(name + "nest", w, x -> x.nest(one));
            none(name + "all", w, x -> x.all(one));
            none(name + "owed", w, x -> x.owed(one));
            none(name + "drawn", w, x -> x.drawn(one, 0));
            none(name + "drawn, purse", w, x -> x.drawn(one, 3));
            none(name + "drawn what", w, x -> x.drawn(0, one));
        }
        for (int traits : new int[] {MIN, -1, 64, MAX}) {
            none(world + ": way from " + traits, w, x -> x.way(traits, 0, -1));
            none(world + ": way to " + traits, w, x -> x.way(0, traits, -1));
            none(world + ": sets from " + traits, w, x -> x.sets(0, traits, -1));
            none(world + ": ask from " + traits, w, x -> x.ask(0, traits, 0));
            none(world + ": last from " + traits, w, x -> x.last(0, traits));
        }
        for (int n : new int[] {MIN, -1, 401, MAX}) {
            none(world + ": end(" + n + ")", w, x -> x.end(n));
        }
        for (int what : new int[] {MIN, -1, 17, MAX}) {
            none(world + ": count(" + what + ")", w, x -> x.count(what));
        }
        for (int k : new int[] {MIN, 0, 21, MAX}) {
            none(world + ": whole, k " + k, w, x -> x.whole(k, 0));
        }
        for (int n : new int[] {MIN, -1, 100, MAX}) {
            none(world + ": whole, n " + n, w, x -> x.whole(1, n));
        }
        answers(w, world);
    }

    /** Questions that have an answer change nothing either. */
    private static void answers(Supplier<PeopleLent> w, String name) {
        if (name.equals("full")) {
            none("full: feed beyond 400", w, x -> x.feed(0, 0, 0, 0, 0));
        }
        ask(name + ": of", w, x -> x.of(0, 4));
        ask(name + ": at", w, x -> x.at(0, 4));
        ask(name + ": asks", w, x -> x.asks(0, 0, 5));
        ask(name + ": end", w, x -> x.end(x.count(6)));
        ask(name + ": slips", w, x -> x.slips());
        ask(name + ": fault", w, x -> x.fault());
        ask(name + ": stopped", w, x -> x.stopped());
        ask(name + ": served", w, x -> x.served(1));
        ask(name + ": turn", w, x -> x.turn(1));
        ask(name + ": way", w, x -> x.way(0, 63, 0));
        ask(name + ": sets", w, x -> x.sets(1, 0, 0));
        ask(name + ": ask", w, x -> x.ask(1, 0, 0));
        ask(name + ": last", w, x -> x.last(1, 0));
        ask(name + ": nest", w, x -> x.nest(0));
        ask(name + ": all", w, x -> x.all(0));
        ask(name + ": owed", w, x -> x.owed(1));
        ask(name + ": whole", w, x -> x.whole(20, 99));
        ask(name + ": drawn", w, x -> x.drawn(0, 0));
        ask(name + ": count", w, x -> x.count(0));
        ask(name + ": status", w, x -> x.status());
    }
}
