/** Promises 22 to 37: questions, years, images, counts. */
final class QuestionSentences {
    private static final int MIN = Integer.MIN_VALUE;
    private static final int MAX = Integer.MAX_VALUE;

    private QuestionSentences() {
    }

    static void run(Sentences s) {
        served(s);
        ways(s);
        sets(s);
        others(s);
        years(s);
        images(s);
        counts(s);
        status(s);
    }

    private static void served(Sentences s) {
        s.says("`int served(int what)`: SERVED: how many BOOKS (what 0), the BOOK of READER r (1 + r; 100: none). "
            + "NONE.");
        PeopleLent x = Worlds.rich();
        x.bring(1);
        int[] due = {1, 100, 1, 100};
        for (int what = 0; what < 4; what++) {
            s.due("served(" + what + ")", x.served(what), due[what]);
        }
        for (int what : new int[] {MIN, -1, 4, MAX}) {
            s.none("served(" + what + ")", Worlds::rich, y -> y.served(what));
        }
        PeopleLent full = Worlds.full();
        s.due("served(0)", full.served(0), 0);
        s.due("served(6)", full.served(6), 100);
        s.due("served(7)", full.served(7), -1);

        s.says("`int turn(int reader)`: TURN of a READER: the BOOK. NONE (none; not at the DESK).");
        s.due("not at the desk", Worlds.rich().turn(1), -1);
        PeopleLent y = Worlds.rich();
        y.bring(1);
        s.due("the book", y.turn(1), 2);
        s.due("none for a rare one", y.turn(2), -1);
        y.undo();
        s.due("not at the desk again", y.turn(1), -1);
        for (int r : new int[] {MIN, -1, 3, MAX}) {
            s.none("turn(" + r + ")", Worlds::rich, z -> z.turn(r));
        }
    }

    private static void ways(Sentences s) {
        s.says("`int way(int from, int to, int i)`: A WAY from TRAITS 0 .. 63 to have others 0 .. 63: weeks (i NONE), "
            + "the i-th BOOK. NONE (none).");
        PeopleLent x = Worlds.rich();
        s.due("weeks", x.way(0, 7, -1), 6);
        for (int i = 0; i < 3; i++) {
            s.due("the " + i + "-th", x.way(0, 7, i), i);
        }
        s.due("from 63 to 63", x.way(63, 63, -1), 0);
        s.due("its first book", x.way(63, 63, 0), -1);
        s.due("no way", x.way(0, 8, -1), -1);
        s.due("no way's book", x.way(0, 8, 0), -1);
        for (int i : new int[] {MIN, -2, 3, 8, MAX}) {
            s.none("way(0, 7, " + i + ")", Worlds::rich, y -> y.way(0, 7, i));
        }
        for (int traits : new int[] {MIN, -1, 64, MAX}) {
            s.none("way from " + traits, Worlds::rich, y -> y.way(traits, 0, -1));
            s.none("way to " + traits, Worlds::rich, y -> y.way(0, traits, -1));
        }
    }

    private static void sets(Sentences s) {
        s.says("`int sets(int reader, int from, int i)`: HAS READ, from TRAITS 0 .. 63: how many sets (i NONE), the "
            + "i-th, as bits. NONE.");
        PeopleLent x = Worlds.rich();
        s.due("how many", x.sets(1, 1, -1), 2);
        s.due("the first", x.sets(1, 1, 0), 2);
        s.due("the last", x.sets(1, 1, 1), 3);
        s.due("none", x.sets(1, 63, -1), 0);
        s.due("the first of none", x.sets(1, 63, 0), -1);
        s.due("from 63", x.sets(2, 63, -1), 8);
        for (int i : new int[] {MIN, -2, 2, MAX}) {
            s.none("sets(1, 1, " + i + ")", Worlds::rich, y -> y.sets(1, 1, i));
        }
        for (int r : new int[] {MIN, -1, 3, MAX}) {
            s.none("sets(" + r + ", 0, -1)", Worlds::rich, y -> y.sets(r, 0, -1));
            s.none("ask(" + r + ", 0, 0)", Worlds::rich, y -> y.ask(r, 0, 0));
            s.none("last(" + r + ", 0)", Worlds::rich, y -> y.last(r, 0));
        }
        for (int traits : new int[] {MIN, -1, 64, MAX}) {
            s.none("sets(0, " + traits + ", -1)", Worlds::rich, y -> y.sets(0, traits, -1));
        }

        s.says("`int ask(int reader, int from, int what)`: To ASK: the BOOK (what 0), how many sets are left at most "
            + "(1). NONE (no sets, no BOOKS).");
        s.due("the book", x.ask(1, 1, 0), 0);
        s.due("left", x.ask(1, 1, 1), 1);
        s.due("eight sets", x.ask(2, 63, 0), 0);
        s.due("left", x.ask(2, 63, 1), 4);
        s.due("no sets", x.ask(1, 63, 0), -1);
        s.due("no sets", x.ask(1, 63, 1), -1);
        PeopleLent bare = new PeopleLent();
        bare.reader(5, 0);
        s.due("a set without books", bare.sets(0, 5, -1), 1);
        s.due("no books", bare.ask(0, 5, 0), -1);
        s.due("no books", bare.ask(0, 5, 1), -1);
        for (int r : new int[] {MIN, -1, 3, MAX}) {
            s.none("ask(" + r + ", 0, 1)", Worlds::rich, y -> y.ask(r, 0, 1));
        }
        for (int traits : new int[] {MIN, -1, 64, MAX}) {
            s.none("ask(1, " + traits + ", 0)", Worlds::rich, y -> y.ask(1, traits, 0));
        }
        for (int what : new int[] {MIN, -1, 2, MAX}) {
            s.none("ask(1, 1, " + what + ")", Worlds::rich, y -> y.ask(1, 1, what));
        }

        s.says("`int last(int reader, int from)`: LAST: BOOKS, as bits. NONE.");
        s.due("last", x.last(1, 1), 3);
        s.due("of all", x.last(2, 63), 7);
        s.due("of no sets", x.last(1, 63), 0);
        for (int r : new int[] {MIN, -1, 3, MAX}) {
            s.none("last(" + r + ", 0)", Worlds::rich, y -> y.last(r, 0));
        }
        for (int traits : new int[] {MIN, -1, 64, MAX}) {
            s.none("last(1, " + traits + ")", Worlds::rich, y -> y.last(1, traits));
        }
    }

    private static void others(Sentences s) {
        s.says("`int nest(int i)`: A NEST: how many BOOKS (i NONE), the i-th. NONE.");
        PeopleLent x = Worlds.rich();
        s.due("how many", x.nest(-1), 3);
        for (int i = 0; i < 3; i++) {
            s.due("the " + i + "-th", x.nest(i), i);
        }
        for (int i : new int[] {MIN, -2, 3, 8, MAX}) {
            s.none("nest(" + i + ")", Worlds::rich, y -> y.nest(i));
        }
        s.due("no books", Worlds.empty().nest(-1), 0);
        s.due("no books", Worlds.empty().nest(0), -1);

        s.says("`int all(int what)`: ALL HAD: how many READERS (what 0), who, as bits (1). NONE.");
        s.due("how many", x.all(0), 1);
        s.due("who", x.all(1), 2);
        for (int what : new int[] {MIN, -1, 2, MAX}) {
            s.none("all(" + what + ")", Worlds::rich, y -> y.all(what));
        }

        s.says("`int owed(int law)`: OWED by a LAW. NONE (no such LAW).");
        s.due("by none", x.owed(-1), 4);
        s.due("by law 0", x.owed(0), 6);
        s.due("by law 1", x.owed(1), 18);
        for (int law : new int[] {MIN, -2, 2, MAX}) {
            s.none("owed(" + law + ")", Worlds::rich, y -> y.owed(law));
        }
        s.none("owed(6) of six", Worlds::full, y -> y.owed(6));
        s.none("owed(0) of none", Worlds::empty, y -> y.owed(0));

        s.says("`long whole(int k, int n)`: WHOLE, k 1 .. 20, n weeks 0 .. 99. NONE.");
        s.due("whole(1, 1)", x.whole(1, 1), 700000000000L);
        s.due("whole(1, 0)", x.whole(1, 0), 1000000000000L);
        s.due("whole(20, 0)", x.whole(20, 0), 1000000000000L);
        s.due("whole(20, 20) is not all", x.whole(20, 20) < 1000000000000L ? 1 : 0, 1);
        s.due("whole(1, 99)", x.whole(1, 99) >= 0 ? 1 : 0, 1);
        s.due("whole(20, 99)", x.whole(20, 99) > x.whole(19, 99) ? 1 : 0, 1);
        for (int k : new int[] {MIN, -1, 0, 21, MAX}) {
            s.none("whole(" + k + ", 1)", Worlds::rich, y -> y.whole(k, 1));
        }
        for (int n : new int[] {MIN, -1, 100, MAX}) {
            s.none("whole(1, " + n + ")", Worlds::rich, y -> y.whole(1, n));
        }
    }

    private static PeopleLent without(boolean books) {
        PeopleLent x = new PeopleLent();
        if (books) {
            x.book(1, 0, 0, 0);
        } else {
            x.reader(0, 0);
        }
        return x;
    }

    private static void years(Sentences s) {
        s.says("`int years(int seed, int n)`: YEARS, kept as the latest: what was paid in them. -1; -3 there are no "
            + "BOOKS, no READERS.");
        PeopleLent x = new PeopleLent();
        x.book(1, 0, 1, 999);
        x.reader(0, 0);
        x.lend(0, 0);
        Check.law(x, "fines 5");
        x.force(0);
        int paid = x.years(7, 60);
        s.due("status()", x.status(), 0);
        s.due("something is paid", paid > 0 ? 1 : 0, 1);
        s.due("by the purse", x.drawn(0, 3), 999 - paid);
        s.due("the purse here stays", x.of(0, 3), 999);
        s.due("the same again", x.years(7, 60), paid);
        s.due("others", x.years(7, 1), 0);
        s.due("the latest", x.drawn(0, 3), 999);
        s.due("refused", x.years(7, 0), -1);
        s.due("the latest stay", x.drawn(0, 3), 999);
        s.refused("-1", Worlds::rich, y -> y.years(1000001, 1), -1);
        s.refused("-1", Worlds::rich, y -> y.years(1, 61), -1);
        s.refused("no readers", () -> without(true), y -> y.years(1, 1), -3);
        s.refused("no books", () -> without(false), y -> y.years(1, 1), -3);
        s.refused("nothing", Worlds::empty, y -> y.years(1, 1), -3);

        s.says("`int drawn(int k, int what)`: Behind the latest YEARS TRAITS (what 0), WORN (1), the BOOK (2; NONE, "
            + "too: the DESK) of READER k, the PURSE (3) of BOOK k. NONE.");
        PeopleLent d = new PeopleLent();
        s.due("ahead of any", d.drawn(0, 0), -1);
        s.due("ahead of any", d.drawn(0, 3), -1);
        d.book(1, 0, 8, 50);
        d.book(1, 63, 0, 60);
        d.book(1, 63, 0, 70);
        d.reader(4, 0);
        s.due("ahead of any", d.drawn(0, 0), -1);
        d.years(0, 1);
        // From seed 0 the draws are of 12345, 628841, 621889: reader 0, book 2, which it does not fit.
        int[] due = {4, 0, -1};
        for (int what = 0; what < 3; what++) {
            s.due("drawn(0, " + what + ")", d.drawn(0, what), due[what]);
        }
        for (int k = 0; k < 3; k++) {
            s.due("drawn(" + k + ", 3)", d.drawn(k, 3), 50 + 10 * k);
        }
        s.due("no reader 1", d.drawn(1, 0), -1);
        d.reader(5, 0);
        d.book(1, 0, 0, 80);
        s.due("reader 1 came later", d.drawn(1, 0), -1);
        s.due("book 3 came later", d.drawn(3, 3), -1);
        d.years(0, 1);
        s.due("reader 1", d.drawn(1, 0), 5);
        s.due("book 3", d.drawn(3, 3), 80);
        for (int k : new int[] {MIN, -1, 3, MAX}) {
            for (int what = 0; what < 4; what++) {
                int one = what;
                s.none("drawn(" + k + ", " + what + ")", Worlds::rich, y -> y.drawn(k, one));
            }
        }
        for (int what : new int[] {MIN, -1, 4, MAX}) {
            s.none("drawn(0, " + what + ")", Worlds::rich, y -> y.drawn(0, what));
        }
    }

    private static void images(Sentences s) {
        s.says("`int image(int k)`: IMAGE k is kept: 0; -1.");
        PeopleLent x = new PeopleLent();
        x.book(1, 0, 0, 0);
        s.due("image(0)", x.image(0), 0);
        s.due("status()", x.status(), 0);
        x.book(2, 0, 0, 0);
        s.due("image(1)", x.image(1), 0);
        x.book(3, 0, 0, 0);
        x.back(0);
        s.due("image 0", x.count(0), 1);
        x.back(1);
        s.due("image 1", x.count(0), 2);
        x.image(0);
        x.book(3, 0, 0, 0);
        x.back(0);
        s.due("image 0 anew", x.count(0), 2);
        for (int k : new int[] {MIN, -1, 2, MAX}) {
            s.refused("image(" + k + ")", Worlds::rich, y -> y.image(k), -1);
        }

        s.says("`int back(int k)`: BACK to IMAGE k: 0. -1; -2 it was not kept.");
        s.due("back", x.back(1), 0);
        s.due("status()", x.status(), 0);
        for (int k : new int[] {MIN, -1, 2, MAX}) {
            s.refused("back(" + k + ")", Worlds::rich, y -> y.back(k), -1);
        }
        s.refused("back(0)", Worlds::empty, y -> y.back(0), -2);
        s.refused("back(1)", Worlds::empty, y -> y.back(1), -2);
        PeopleLent one = new PeopleLent();
        one.image(1);
        s.due("0 was not kept", one.back(0), -2);
        s.due("1 was", one.back(1), 0);
        s.due("0 was not kept yet", one.back(0), -2);
    }

    private static void counts(Sentences s) {
        s.says("`int count(int what)`: 0 BOOKS, 1 READERS, 2 how many are WITH a BOOK, 3 WAITING, 4 LAWS, 5 how many "
            + "can be undone, 6 bytes of the TAPE,");
        int[] rich = {3, 3, 2, 3, 2, 7, 5};
        int[] full = {8, 6, 4, 12, 6, 16, 400};
        for (int what = 0; what < 7; what++) {
            s.due("rich: count(" + what + ")", Worlds.rich().count(what), rich[what]);
            s.due("full: count(" + what + ")", Worlds.full().count(what), full[what]);
        }

        s.says("7 .. 11 how many calls were REFUSED by -1, -2, -3, -5, -6 (IMAGES do not keep that),");
        PeopleLent x = Worlds.full();
        x.end(0);
        x.image(0);
        x.book(0, 0, 0, 0);
        for (int time = 0; time < 2; time++) {
            x.lend(9, 9);
        }
        for (int time = 0; time < 3; time++) {
            x.pass();
        }
        for (int time = 0; time < 4; time++) {
            x.reader(0, 0);
        }
        for (int time = 0; time < 5; time++) {
            x.row();
        }
        s.due("back", x.back(0), 0);
        for (int what = 7; what < 12; what++) {
            s.due("count(" + what + ")", x.count(what), what - 6);
        }
        s.due("orders that can't be are one", Check.orders(x, "bring 9"), -3);
        int[] more = {1, 2, 4, 4, 5};
        for (int what = 7; what < 12; what++) {
            s.due("count(" + what + ")", x.count(what), more[what - 7]);
        }

        s.says("12 the LAW in FORCE, 13 .. 16 TERMS 0 .. 3. NONE for others.");
        PeopleLent y = Worlds.rich();
        s.due("count(12)", y.count(12), 0);
        y.force(1);
        s.due("count(12)", y.count(12), 1);
        y.force(-1);
        s.due("count(12)", y.count(12), -1);
        int[] terms = {2, 1, 3, 0};
        for (int what = 0; what < 4; what++) {
            s.due("count(" + (13 + what) + ")", y.count(13 + what), terms[what]);
        }
        for (int what : new int[] {MIN, -1, 17, MAX}) {
            s.none("count(" + what + ")", Worlds::rich, z -> z.count(what));
        }
    }

    private static void tellsStatus(Sentences s, String name, Still.Deed fine, Still.Deed wrong, int why) {
        PeopleLent x = Worlds.rich();
        x.lend(9, 9);
        fine.on(x);
        s.due(name, x.status(), 0);
        PeopleLent y = Worlds.rich();
        y.force(0);
        wrong.on(y);
        s.due(name + ", refused", y.status(), why);
        y.count(0);
        y.status();
        y.of(9, 9);
        y.feed(0, 0, 0, 0, 0);
        y.end(-1);
        y.served(-9);
        y.owed(-9);
        y.whole(0, 0);
        s.due(name + ", refused, others leave it", y.status(), why);
    }

    private static int read(PeopleLent x, String text, boolean law) {
        x.end(0);
        return law ? Check.law(x, text) : Check.orders(x, text);
    }

    private static void status(Sentences s) {
        s.says("`int status()`: What the latest call of book, reader, terms, row, law, orders, force, lend, bring, "
            + "waits, pass, undo, years, image, back was REFUSED by; 0 if it was not, or ahead of any.");
        s.due("ahead of any", Worlds.empty().status(), 0);
        tellsStatus(s, "book", x -> x.book(1, 0, 0, 0), x -> x.book(0, 0, 0, 0), -1);
        tellsStatus(s, "reader", x -> x.reader(0, 0), x -> x.reader(64, 0), -1);
        tellsStatus(s, "terms", x -> x.terms(0, 0), x -> x.terms(4, 0), -1);
        tellsStatus(s, "row", x -> x.row(), x -> x.end(0) + x.row(), -6);
        tellsStatus(s, "law", x -> read(x, "bars", true), x -> read(x, "", true), -6);
        tellsStatus(s, "orders", x -> read(x, "pass", false), x -> read(x, "", false), -6);
        tellsStatus(s, "orders", x -> read(x, "pass if 1=2", false), x -> read(x, "bring 2", false), -3);
        tellsStatus(s, "force", x -> x.force(-1), x -> x.force(2), -2);
        tellsStatus(s, "lend", x -> x.lend(1, 2), x -> x.lend(1, 1), -3);
        tellsStatus(s, "bring", x -> x.bring(0), x -> x.bring(3), -2);
        tellsStatus(s, "waits", x -> x.waits(2, 0), x -> x.waits(0, 0), -3);
        tellsStatus(s, "pass", x -> x.pass(), x -> x.terms(0, 999) + x.pass(), -3);
        tellsStatus(s, "undo", x -> x.undo(), x -> x.back(0) + x.undo(), -3);
        tellsStatus(s, "years", x -> x.years(0, 1), x -> x.years(0, 0), -1);
        tellsStatus(s, "image", x -> x.image(0), x -> x.image(2), -1);
        tellsStatus(s, "back", x -> x.back(0), x -> x.back(2), -1);
    }
}
