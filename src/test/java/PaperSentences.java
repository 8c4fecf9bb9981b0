/** Terms, III: what is found out on paper. */
final class PaperSentences {
    private PaperSentences() {
    }

    static void run(Sentences s) {
        canHave(s);
        served(s);
        turn(s);
        way(s);
        hasRead(s);
        ask(s);
        last(s);
        nest(s);
        all(s);
        owed(s);
        whole(s);
    }

    private static PeopleLent shelf(int... wantsAndGives) {
        PeopleLent x = new PeopleLent();
        for (int i = 0; i + 1 < wantsAndGives.length; i += 2) {
            x.book(1, wantsAndGives[i], wantsAndGives[i + 1], 0);
        }
        return x;
    }

    private static PeopleLent readers(PeopleLent x, int... traits) {
        for (int one : traits) {
            x.reader(one, 0);
        }
        return x;
    }

    private static void canHave(Sentences s) {
        s.says("CAN HAVE: a BOOK that has none and a READER at the DESK, as to LEND. (On paper:)");
        PeopleLent x = readers(shelf(0, 0, 1, 0), 0, 1);
        x.reader(63, 1);
        int[][] due = {{1, 1, 0}, {0, 1, 0}};
        for (int b = 0; b < 2; b++) {
            for (int r = 0; r < 3; r++) {
                s.due("asks(" + b + ", " + r + ", 5)", x.asks(b, r, 5), due[b][r]);
            }
        }
        x.lend(1, 0);
        s.due("a book that has one", x.asks(0, 0, 5), 0);
        s.due("the book that it is with", x.asks(0, 1, 5), 0);
        s.due("not at the desk", x.asks(1, 1, 5), 0);
        s.due("to lend it is all the same", x.lend(1, 1), 0);
        Check.law(x, "bars if reader=0");
        x.force(0);
        s.due("barred", x.asks(0, 0, 5), 0);
        PeopleLent full = Worlds.full();
        s.due("worn 99", full.asks(4, 4, 5), 0);
        s.due("nothing is changed", x.count(2), 1);
    }

    private static void row(Sentences s, String name, PeopleLent x, int... due) {
        for (int what = 0; what < due.length; what++) {
            s.due(name + ": served(" + what + ")", x.served(what), due[what]);
        }
        s.due(name + ": beyond", x.served(due.length), -1);
    }

    private static void served(Sentences s) {
        s.says("SERVED: the most BOOKS that get a READER each that they CAN HAVE; the first as a row of BOOKS by "
            + "READERS (none last).");
        row(s, "nothing", new PeopleLent(), 0);
        row(s, "no readers", shelf(0, 0), 0);
        row(s, "no books", readers(shelf(), 0, 0), 0, 100, 100);
        row(s, "none can", readers(shelf(32, 0), 0), 0, 100);
        row(s, "more readers", readers(shelf(0, 0), 0, 0, 0), 1, 0, 100, 100);
        row(s, "more books", readers(shelf(0, 0, 0, 0, 0, 0), 0, 0), 2, 0, 1);
        row(s, "the first gives way", readers(shelf(0, 0, 1, 0), 1, 0), 2, 1, 0);
        row(s, "the first goes without for none", readers(shelf(1, 0, 0, 0), 0, 1), 2, 1, 0);
        row(s, "a chain", readers(shelf(0, 0, 1, 0, 3, 0), 3, 1, 0), 3, 2, 1, 0);
        row(s, "a low book ahead of none", readers(shelf(1, 0, 0, 0), 1, 1, 0), 2, 0, 1, 100);
        row(s, "one that has no other stays without", readers(shelf(0, 0, 0, 0), 0, 0, 0), 2, 0, 1, 100);
        row(s, "all", readers(shelf(0, 0, 0, 0, 0, 0, 0, 0, 0, 0, 0, 0, 0, 0, 0, 0), 0, 0, 0, 0, 0, 0),
            6, 0, 1, 2, 3, 4, 5);
        row(s, "all, the other way round", readers(shelf(0, 0, 1, 0, 3, 0, 7, 0, 15, 0, 31, 0, 63, 0, 63, 0),
            63, 31, 15, 7, 3, 1), 6, 0, 5, 4, 3, 2, 1);
        PeopleLent x = readers(shelf(0, 0, 0, 0), 0, 0);
        x.reader(0, 1);
        x.lend(0, 0);
        row(s, "who is with a book, who is rare", x, 1, 100, 1, 100);
    }

    private static void turn(Sentences s) {
        s.says("TURN of a READER at the DESK: the first WAITING of whose BOOK it CAN be had.");
        PeopleLent x = readers(shelf(32, 0, 0, 0, 0, 0), 0, 0);
        s.due("none waits", x.turn(0), -1);
        x.waits(0, 0);
        s.due("it does not fit", x.turn(0), -1);
        x.waits(2, 1);
        s.due("that is another one's", x.turn(0), -1);
        x.waits(2, 0);
        x.waits(1, 0);
        s.due("the first", x.turn(0), 2);
        x.lend(1, 2);
        s.due("a book that has one", x.turn(0), 1);
        x.lend(0, 1);
        s.due("not at the desk", x.turn(0), -1);
        x.bring(0);
        x.bring(1);
        s.due("again", x.turn(0), 2);
        Check.law(x, "bars if book=2");
        x.force(0);
        s.due("barred", x.turn(0), -1);
        PeopleLent rare = shelf(0, 0);
        rare.reader(0, 1);
        rare.waits(0, 0);
        s.due("rare", rare.turn(0), -1);
        s.due("worn 99", Worlds.full().turn(4), -1);
    }

    private static void wayDue(Sentences s, PeopleLent x, int from, int to, int weeks, int... books) {
        String name = "way(" + from + ", " + to + ", ";
        s.due(name + "-1)", x.way(from, to, -1), weeks);
        for (int i = 0; i < books.length; i++) {
            s.due(name + i + ")", x.way(from, to, i), books[i]);
        }
        s.due(name + books.length + ")", x.way(from, to, books.length), -1);
    }

    private static void way(Sentences s) {
        s.says("A WAY: from TRAITS told to have told ones (all of these; others, too) by BOOKS one behind the other, "
            + "each of which one FITS as it is then and each of which adds what it GIVES: the fewest weeks of LENGTHS "
            + "together, then the fewest BOOKS; the first as a row of BOOKS.");
        PeopleLent x = new PeopleLent();
        wayDue(s, x, 0, 0, 0);
        wayDue(s, x, 63, 63, 0);
        wayDue(s, x, 63, 5, 0);
        wayDue(s, x, 1, 3, -1);
        x.book(9, 0, 7, 0);
        x.book(3, 0, 1, 0);
        x.book(3, 1, 2, 0);
        x.book(3, 3, 4, 0);
        wayDue(s, x, 0, 7, 9, 0);
        wayDue(s, x, 0, 3, 6, 1, 2);
        wayDue(s, x, 0, 2, 6, 1, 2);
        wayDue(s, x, 1, 4, 6, 2, 3);
        wayDue(s, x, 3, 4, 3, 3);
        wayDue(s, x, 0, 8, -1);
        wayDue(s, x, 7, 7, 0);
        wayDue(s, x, 8, 12, 9, 0);
        x.book(8, 0, 7, 0);
        wayDue(s, x, 0, 7, 8, 4);
        x.book(8, 0, 7, 0);
        wayDue(s, x, 0, 7, 8, 4);
        PeopleLent fewest = new PeopleLent();
        fewest.book(1, 0, 1, 0);
        fewest.book(1, 1, 2, 0);
        fewest.book(2, 0, 3, 0);
        wayDue(s, fewest, 0, 3, 2, 2);
        wayDue(s, fewest, 1, 3, 1, 1);
        fewest.book(1, 2, 4, 0);
        wayDue(s, fewest, 0, 4, 3, 2, 3);
        PeopleLent order = new PeopleLent();
        order.book(2, 0, 2, 0);
        order.book(2, 0, 1, 0);
        wayDue(s, order, 0, 3, 4, 0, 1);
        order.book(1, 3, 4, 0);
        wayDue(s, order, 0, 7, 5, 0, 1, 2);
        wayDue(s, order, 0, 4, 5, 0, 1, 2);
        PeopleLent chain = new PeopleLent();
        for (int b = 5; b >= 0; b--) {
            chain.book(9, (1 << b) - 1, 1 << b, 0);
        }
        wayDue(s, chain, 0, 63, 54, 5, 4, 3, 2, 1, 0);
        wayDue(s, chain, 0, 32, 54, 5, 4, 3, 2, 1, 0);
        PeopleLent rare = new PeopleLent();
        rare.book(1, 0, 1, 0);
        rare.reader(0, 0);
        rare.lend(0, 0);
        Check.law(rare, "bars;takes 9");
        rare.force(0);
        wayDue(s, rare, 0, 1, 1, 0);
    }

    private static void setsDue(Sentences s, PeopleLent x, int reader, int from, int... sets) {
        String name = "sets(" + reader + ", " + from + ", ";
        s.due(name + "-1)", x.sets(reader, from, -1), sets.length);
        for (int i = 0; i < sets.length; i++) {
            s.due(name + i + ")", x.sets(reader, from, i), sets[i]);
        }
        s.due(name + sets.length + ")", x.sets(reader, from, sets.length), -1);
    }

    private static void hasRead(Sentences s) {
        s.says("HAS READ: from TRAITS told, sets of BOOKS that can have been read in some order, each FITTING as it "
            + "was then, behind which TRAITS are just as those of a READER now; by bits.");
        setsDue(s, readers(shelf(), 5), 0, 5, 0);
        setsDue(s, readers(shelf(), 5), 0, 4);
        PeopleLent x = readers(shelf(1, 2, 0, 1, 2, 0, 8, 0), 3, 4, 2);
        setsDue(s, x, 0, 0, 3, 7);
        setsDue(s, x, 0, 1, 1, 3, 5, 7);
        setsDue(s, x, 0, 2, 2, 3, 6, 7);
        setsDue(s, x, 0, 3, 0, 1, 2, 3, 4, 5, 6, 7);
        setsDue(s, x, 0, 8);
        setsDue(s, x, 0, 7);
        setsDue(s, x, 1, 4, 0);
        setsDue(s, x, 2, 0);
        setsDue(s, readers(shelf(2, 1, 1, 2), 3), 0, 0);
        PeopleLent eight = shelf(0, 0, 0, 0, 0, 0, 0, 0, 0, 0, 0, 0, 0, 0, 0, 0);
        eight.reader(0, 0);
        s.due("all sets", eight.sets(0, 0, -1), 256);
        for (int i = 0; i < 256; i += 51) {
            s.due("sets(0, 0, " + i + ")", eight.sets(0, 0, i), i);
        }
        s.due("sets(0, 0, 256)", eight.sets(0, 0, 256), -1);
        PeopleLent now = readers(shelf(0, 1), 0);
        setsDue(s, now, 0, 0, 0);
        now.lend(0, 0);
        now.pass();
        now.bring(0);
        setsDue(s, now, 0, 0, 1);
    }

    private static void ask(Sentences s) {
        s.says("To ASK: the BOOK by which the more of both (sets with it, without it) is least; the lowest.");
        PeopleLent x = readers(shelf(1, 2, 0, 1, 2, 0, 8, 0), 3);
        s.due("of 3, 7: by book 2", x.ask(0, 0, 0), 2);
        s.due("one is left", x.ask(0, 0, 1), 1);
        s.due("of 1, 3, 5, 7: by book 1, 2", x.ask(0, 1, 0), 1);
        s.due("two are left", x.ask(0, 1, 1), 2);
        PeopleLent one = readers(shelf(0, 1), 1);
        s.due("of 1", one.ask(0, 0, 0), 0);
        s.due("one is left", one.ask(0, 0, 1), 1);
        PeopleLent none = readers(shelf(32, 1, 32, 1), 1);
        s.due("of 0: the lowest", none.ask(0, 1, 0), 0);
        s.due("one is left", none.ask(0, 1, 1), 1);
        PeopleLent three = readers(shelf(0, 1, 0, 1), 1);
        s.due("of 1, 2, 3: the lowest", three.ask(0, 0, 0), 0);
        s.due("two are left", three.ask(0, 0, 1), 2);
    }

    private static void last(Sentences s) {
        s.says("LAST: BOOKS that can have been the last one in an order of one of these sets.");
        PeopleLent x = readers(shelf(1, 2, 0, 1, 2, 0, 8, 0), 3, 4);
        s.due("last(0, 0)", x.last(0, 0), 5);
        s.due("last(0, 1)", x.last(0, 1), 7);
        s.due("the empty set alone", x.last(1, 4), 0);
        s.due("no sets", x.last(0, 8), 0);
        PeopleLent y = readers(shelf(0, 1, 1, 2, 3, 4), 7);
        s.due("one order", y.last(0, 0), 4);
        PeopleLent z = readers(shelf(0, 1, 0, 2), 3);
        s.due("both orders", z.last(0, 0), 3);
    }

    private static void nestDue(Sentences s, PeopleLent x, int... books) {
        s.due("nest(-1)", x.nest(-1), books.length);
        for (int i = 0; i < books.length; i++) {
            s.due("nest(" + i + ")", x.nest(i), books[i]);
        }
        s.due("nest(" + books.length + ")", x.nest(books.length), -1);
    }

    private static void nest(Sentences s) {
        s.says("A NEST: the most BOOKS, each of which WANTS all that the one ahead WANTS and more; the first as a "
            + "row.");
        nestDue(s, shelf());
        nestDue(s, shelf(5, 0), 0);
        nestDue(s, shelf(5, 0, 5, 0), 0);
        nestDue(s, shelf(1, 0, 2, 0), 0);
        nestDue(s, shelf(3, 0, 12, 0), 0);
        nestDue(s, shelf(3, 0, 1, 0), 1, 0);
        nestDue(s, shelf(2, 0, 3, 0, 1, 0, 3, 0), 0, 1);
        nestDue(s, shelf(3, 0, 2, 0, 1, 0), 1, 0);
        nestDue(s, shelf(1, 0, 32, 0, 48, 0, 56, 0), 1, 2, 3);
        nestDue(s, shelf(63, 0, 0, 0, 31, 0, 1, 0, 15, 0, 3, 0, 7, 0, 0, 0), 1, 3, 5, 6, 4, 2, 0);
    }

    private static void all(Sentences s) {
        s.says("ALL HAD: the fewest READERS by whom each BOOK that some READER FITS is FITTED; the lowest as bits.");
        allDue(s, shelf(), 0);
        allDue(s, shelf(0, 0), 0);
        allDue(s, readers(shelf(), 1, 2), 0);
        allDue(s, readers(shelf(4, 0), 1, 2), 0);
        allDue(s, readers(shelf(1, 0), 1, 2), 1);
        allDue(s, readers(shelf(2, 0), 1, 2), 2);
        allDue(s, readers(shelf(1, 0, 2, 0), 1, 2), 3);
        allDue(s, readers(shelf(1, 0, 2, 0), 1, 2, 3), 4);
        allDue(s, readers(shelf(1, 0, 2, 0), 1, 2, 3, 3), 4);
        allDue(s, readers(shelf(1, 0, 2, 0, 4, 0), 1, 6, 3, 4), 3);
        allDue(s, readers(shelf(1, 0, 2, 0, 4, 0, 8, 0, 16, 0, 32, 0), 1, 2, 4, 8, 16, 32), 63);
        PeopleLent rare = shelf(32, 0);
        rare.reader(0, 0);
        rare.reader(32, 1);
        allDue(s, rare, 2);
    }

    private static void allDue(Sentences s, PeopleLent x, int who) {
        s.due("all(0)", x.all(0), Integer.bitCount(who));
        s.due("all(1)", x.all(1), who);
    }

    private static void owed(Sentences s) {
        s.says("OWED: what all BOOKS would pay together, if all READERS were brought now (each as it stands now), by "
            + "a LAW in place of that in FORCE (NONE: none) for what they FINE.");
        PeopleLent x = new PeopleLent();
        s.due("no books", x.owed(-1), 0);
        x.book(1, 0, 0, 100);
        x.book(1, 0, 0, 7);
        x.book(1, 0, 0, 100);
        readers(x, 0, 0, 0, 0);
        s.due("none is with a book", x.owed(-1), 0);
        x.lend(0, 0);
        x.lend(1, 1);
        x.terms(0, 3);
        s.due("none is late", x.owed(-1), 0);
        x.lend(2, 2);
        x.terms(0, 8);
        Check.law(x, "fines 10");
        Check.law(x, "fines book;takes 99;bars");
        Check.law(x, "bars");
        s.due("by none", x.owed(-1), 10 + 7 + 4);
        s.due("by law 0", x.owed(0), 50 + 7 + 20);
        s.due("by law 1", x.owed(1), 0 + 5 + 4);
        s.due("by law 2", x.owed(2), 21);
        x.force(0);
        s.due("by none, 0 in force", x.owed(-1), 21);
        s.due("by law 1, 0 in force", x.owed(1), 9);
        s.due("the law in force stays", x.count(12), 0);
        s.due("purses stay", x.of(0, 3), 100);
        s.due("none is brought", x.count(2), 3);
    }

    private static void whole(Sentences s) {
        s.says("WHOLE: the chance, of 1,000,000,000,000 parts, that a READER has not been torn k times or more in n "
            + "weeks, in each of which in RATE of ten it is: each part is cut.");
        long all = 1000000000000L;
        PeopleLent x = new PeopleLent();
        s.due("no week", x.whole(1, 0), all);
        s.due("one week", x.whole(1, 1), 900000000000L);
        s.due("twice in one week", x.whole(2, 1), all);
        s.due("12 weeks", x.whole(1, 12), 282429536481L);
        s.due("13 weeks", x.whole(1, 13), 254186582832L);
        s.due("14 weeks", x.whole(1, 14), 228767924548L);
        // Cut by themselves: 205891132093 untorn, 320275094368 and 22876792454 torn once.
        s.due("15 weeks, torn once at most", x.whole(2, 15), 205891132093L + 320275094368L + 22876792454L);
        for (int rate = 0; rate <= 10; rate++) {
            x.terms(2, rate);
            long[] torn = new long[21];
            torn[0] = all;
            for (int week = 0; week <= 99; week++) {
                long sum = 0;
                for (int k = 1; k <= 20; k++) {
                    sum += torn[k - 1];
                    if ((k + week) % 11 == 0) {
                        s.due("rate " + rate + ": whole(" + k + ", " + week + ")", x.whole(k, week), sum);
                    }
                }
                for (int k = 20; k >= 0; k--) {
                    torn[k] = torn[k] * (10 - rate) / 10 + (k == 0 ? 0 : torn[k - 1] * rate / 10);
                }
            }
            x = new PeopleLent();
        }
        x.terms(2, 0);
        s.due("never", x.whole(1, 99), all);
        x.terms(2, 10);
        s.due("always", x.whole(1, 1), 0);
        s.due("19 of 20 times", x.whole(20, 19), all);
        s.due("20 of 20 times", x.whole(20, 20), 0);
    }
}
