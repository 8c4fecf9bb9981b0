/** Terms, IV: years by draws, rows, images. */
final class YearSentences {
    private YearSentences() {
    }

    static void run(Sentences s) {
        draws(s);
        eachWeek(s);
        rows(s);
        images(s);
        constants(s);
    }

    /** Some books and some readers, all of whom fit. */
    private static PeopleLent library(int books, int readers) {
        PeopleLent x = new PeopleLent();
        for (int b = 0; b < books; b++) {
            x.book(1, 0, 1 << b % 6, 100);
        }
        for (int r = 0; r < readers; r++) {
            x.reader(0, 0);
        }
        return x;
    }

    private static long next(long s) {
        return (s * 1103 + 12345) % 1000003;
    }

    private static void draws(Sentences s) {
        s.says("IV. YEARS with a SEED, n weeks 1 .. 60, on paper: s is the SEED (0 .. 1,000,000);");
        for (int n : new int[] {0, -1, 61}) {
            s.refused("years(0, " + n + ")", Worlds::rich, x -> x.years(0, n), -1);
        }
        for (int seed : new int[] {-1, 1000001}) {
            s.refused("years(" + seed + ", 1)", Worlds::rich, x -> x.years(seed, 1), -1);
        }
        PeopleLent most = library(1, 1);
        s.due("years(0, 1)", most.years(0, 1), 0);
        s.due("years(1000000, 1)", most.years(1000000, 1), 0);
        Check.law(most, "wears 1;bars if kept>0-1");
        most.lend(0, 0);
        most.force(0);
        for (int week = 0; week < 12; week++) {
            most.pass();
        }
        s.due("years(0, 60)", most.years(0, 60) >= 0 ? 1 : 0, 1);
        s.due("the week stays", most.count(13), 12);
        s.due("who is with a book stays", most.at(0, 3), 0);
        s.due("worn stays", most.at(0, 2), 12);
        s.due("what can be undone stays", most.count(5), 13);

        s.says("a DRAW of m: s becomes (s times 1103 and 12345) modulo 1,000,003, it is s modulo m.");
        for (int seed : new int[] {0, 1, 2, 906, 907, 500000, 999999, 1000000}) {
            long first = next(seed);
            long second = next(first);
            PeopleLent x = library(7, 5);
            x.years(seed, 1);
            for (int r = 0; r < 5; r++) {
                s.due("seed " + seed + ": drawn(" + r + ", 2)", x.drawn(r, 2), first % 5 == r ? second % 7 : -1);
            }
        }
    }

    private static void eachWeek(Sentences s) {
        s.says("Each week (at WEEK 999 it ends) DRAWS of READERS, of BOOKS, of 3: at 0 that READER is brought, if it "
            + "is WITH a BOOK; at 1, 2, or at the DESK, it is lent to that BOOK, if it can be; then the week passes.");
        int[] seen = new int[3];
        for (int seed = 0; seed < 40; seed++) {
            long book = next(next(seed)) % 2;
            int third = (int) (next(next(next(seed))) % 3);
            seen[third]++;
            PeopleLent x = library(2, 1);
            s.due("from the desk", x.years(seed, 1), 0);
            s.due("from the desk, seed " + seed, x.drawn(0, 2), book);
            s.due("worn by the week", x.drawn(0, 1), 1);
            x.lend(0, 0);
            x.terms(0, 5);
            boolean leaves = third == 0 || book == 1;
            s.due("from a book, seed " + seed, x.years(seed, 1), leaves ? 4 : 0);
            s.due("with, seed " + seed, x.drawn(0, 2), third == 0 ? -1 : book);
            s.due("purse, seed " + seed, x.drawn(0, 3), leaves ? 96 : 100);
            s.due("traits, seed " + seed, x.drawn(0, 0), leaves ? 1 : 0);
            s.due("worn, seed " + seed, x.drawn(0, 1), third == 0 ? 0 : 1);
            Check.law(x, "bars if book=1");
            x.force(0);
            s.due("barred, seed " + seed, x.years(seed, 1), third == 0 ? 4 : 0);
            s.due("with, seed " + seed, x.drawn(0, 2), third == 0 ? -1 : 0);
        }
        s.due("0, 1, 2 were drawn", seen[0] > 0 && seen[1] > 0 && seen[2] > 0 ? 1 : 0, 1);
        for (int week = 995; week <= 999; week++) {
            PeopleLent x = library(1, 1);
            Check.law(x, "wears 10");
            x.force(0);
            x.lend(0, 0);
            x.terms(0, week);
            x.years(brings(0, 60), 60);
            s.due("from week " + week + " on: weeks", x.drawn(0, 1), 10 * (999 - week));
        }
        PeopleLent x = library(1, 1);
        Check.law(x, "wears 1");
        x.force(0);
        x.lend(0, 0);
        for (int n = 1; n < 5; n++) {
            x.years(brings(0, n), n);
            s.due(n + " weeks", x.drawn(0, 1), n);
        }
    }

    /** A seed from which on no draw of three is 0 for four weeks: nobody is brought in them. */
    private static int brings(int from, int weeks) {
        for (int seed = from; seed < 1000000; seed++) {
            long s = seed;
            boolean brought = false;
            for (int week = 0; week < Math.min(4, weeks); week++) {
                s = next(next(next(s)));
                brought |= s % 3 == 0;
            }
            if (!brought) {
                return seed;
            }
        }
        return -1;
    }

    private static int row(PeopleLent x, int... bytes) {
        StringBuilder text = new StringBuilder();
        for (int one : bytes) {
            text.append((char) one);
        }
        x.end(0);
        Check.tape(x, text.toString());
        return x.row();
    }

    private static void book(Sentences s, int came, int... bytes) {
        PeopleLent x = new PeopleLent();
        s.due("row", row(x, bytes), came);
        s.due("slips", x.slips(), 1 - came);
        s.due("books", x.count(0), came);
        for (int what = 0; what < 4; what++) {
            s.due("of(0, " + what + ")", x.of(0, what), came == 0 ? -1 : what == 3 ? 10 * bytes[3] : bytes[what]);
        }
    }

    private static void rows(Sentences s) {
        s.says("A ROW: the TAPE's bytes by fours: LENGTH, WANTS, GIVES, PURSE by ten: a BOOK;");
        book(s, 1, 1, 0, 0, 0);
        book(s, 1, 9, 63, 63, 99);
        book(s, 1, 2, 3, 4, 5);
        PeopleLent x = new PeopleLent();
        s.due("two", row(x, 1, 2, 3, 4, 5, 6, 7, 8), 2);
        s.due("of(1, 0)", x.of(1, 0), 5);
        s.due("of(1, 3)", x.of(1, 3), 80);

        s.says("one that can't be, one within which the TAPE ends, one for which there is no room is a SLIP: none.");
        book(s, 0, 0, 0, 0, 0);
        book(s, 0, 10, 0, 0, 0);
        book(s, 0, 255, 0, 0, 0);
        book(s, 0, 1, 64, 0, 0);
        book(s, 0, 1, 255, 0, 0);
        book(s, 0, 1, 0, 64, 0);
        book(s, 0, 1, 0, 255, 0);
        book(s, 0, 1, 0, 0, 100);
        book(s, 0, 1, 0, 0, 255);
        book(s, 0, 1);
        book(s, 0, 1, 0);
        book(s, 0, 1, 0, 0);
        PeopleLent y = new PeopleLent();
        s.due("those between", row(y, 0, 0, 0, 0, 1, 0, 0, 7, 1, 0, 0, 100, 2, 0, 0, 8, 1, 0), 2);
        s.due("slips", y.slips(), 3);
        s.due("of(0, 3)", y.of(0, 3), 70);
        s.due("of(1, 3)", y.of(1, 3), 80);
        PeopleLent full = new PeopleLent();
        int[] nine = new int[36];
        for (int b = 0; b < 9; b++) {
            nine[4 * b] = 1;
            nine[4 * b + 3] = b;
        }
        s.due("eight of nine", row(full, nine), 8);
        s.due("one slip", full.slips(), 1);
        s.due("of(7, 3)", full.of(7, 3), 70);
        s.due("none of one", row(full, 1, 0, 0, 0), 0);
        s.due("one slip", full.slips(), 1);
        s.due("not refused", full.status(), 0);
        s.due("none refused by -5", full.count(10), 0);
        int[] most = new int[400];
        s.due("a hundred slips", row(full, most), 0);
        s.due("a hundred", full.slips(), 100);
    }

    private static void images(Sentences s) {
        s.says("IMAGES 0, 1 keep all but the TAPE, FAULT, SLIPS, where ORDERS stopped, what can be undone (nothing, "
            + "behind back()), the latest YEARS;");
        for (int k = 0; k < 2; k++) {
            PeopleLent x = Worlds.rich();
            x.image(k);
            s.due("an image leaves what can be undone", x.count(5), 7);
            x.end(0);
            Check.orders(x, "pass times 3;bring 2;pass");
            Check.law(x, "fines");
            row(x, 0, 0, 0, 0, 0, 0, 0, 0, 7);
            x.years(11, 1);
            int[] drawn = {x.drawn(0, 1), x.drawn(1, 1), x.drawn(0, 2), x.drawn(1, 2)};
            x.feed(0, 0, 0, 0, 0);
            x.pass();
            s.due("back", x.back(k), 0);
            s.due("the tape", x.count(6), 20);
            s.due("the fault", x.fault(), 5);
            s.due("the slips", x.slips(), 3);
            s.due("where orders stopped", x.stopped(), 1);
            s.due("what can be undone", x.count(5), 0);
            s.due("nothing is undone", x.undo(), -3);
            int[] now = {x.drawn(0, 1), x.drawn(1, 1), x.drawn(0, 2), x.drawn(1, 2)};
            for (int i = 0; i < 4; i++) {
                s.due("the latest years", now[i], drawn[i]);
            }
        }

        s.says("BACK to one all that it keeps is as it was then (IMAGES stay).");
        PeopleLent x = Worlds.rich();
        x.end(0);
        int[] counts = {3, 3, 0, 0, 2, 0, 0, 0, 0, 1, 0, 1, 0, 0, 1, 3, 0};
        for (int time = 0; time < 2; time++) {
            s.due("back(0)", x.back(0), 0);
            for (int what = 0; what < 17; what++) {
                s.due("count(" + what + ")", x.count(what), counts[what]);
            }
            s.due("at the desk", x.at(0, 3), -1);
            s.due("purse", x.of(0, 3), 500);
            change(x);
        }
        s.due("back(1)", x.back(1), 0);
        int[] later = {3, 3, 2, 2, 2, 0, 0, 0, 0, 1, 0, 1, 0, 1, 1, 3, 0};
        for (int what = 0; what < 17; what++) {
            s.due("count(" + what + ")", x.count(what), later[what]);
        }
        int[] reader = {0, 0, 2, 0, 0, 0};
        for (int what = 0; what < 6; what++) {
            s.due("at(0, " + what + ")", x.at(0, what), reader[what]);
        }
        s.due("who waits", x.waits(2, 1), -3);
        s.due("the law in force", x.asks(0, 0, 0), 3);
        s.due("law 1", x.owed(1), 0);
        others(s);
    }

    /** Other books, readers, laws, terms at the same numbers: then back to the first ones. */
    private static void others(Sentences s) {
        PeopleLent x = new PeopleLent();
        x.image(0);
        fill(x, 1);
        x.image(1);
        x.back(0);
        fill(x, 2);
        s.due("others", x.of(0, 0), 2);
        x.back(1);
        for (int time = 1; time <= 2; time++) {
            int[] book = {time, 0, 10 + time, 100 * time, 1};
            for (int what = 0; what < 5; what++) {
                s.due("of(0, " + what + ")", x.of(0, what), book[what]);
            }
            s.due("wants", x.of(1, 1), 32 + time);
            int[] reader = {20 + time, 0, 3 * time, 0, 50 * time, 0};
            for (int what = 0; what < 6; what++) {
                s.due("at(1, " + what + ")", x.at(1, what), reader[what]);
            }
            s.due("rare", x.at(0, 1), 2 - time);
            s.due("fines", x.asks(0, 0, 0), 30 + time);
            s.due("by law 1", x.owed(1), 0);
            s.due("waits", x.waits(2 - time, 2 - time), -3);
            s.due("week", x.count(13), 50 * time + 1);
            s.due("weeks", x.count(14), 5 + time);
            x.back(0);
            s.due("nothing", x.count(0) + x.count(1) + x.count(3) + x.count(4), 0);
            fill(x, 2);
        }
        s.due("a new reader is not worn", x.at(2, 2), 0);
        s.due("nor has it read", x.at(2, 5), 0);
        s.due("it is at the desk", x.at(2, 3), -1);
    }

    private static void fill(PeopleLent x, int time) {
        x.book(time, 0, 10 + time, 100 * time);
        x.book(1, 32 + time, 0, 0);
        x.reader(0, 2 - time);
        x.reader(20 + time, 0);
        x.reader(0, 0);
        Check.law(x, "fines " + (30 + time) + ";wears " + 3 * time);
        Check.law(x, "fines " + (40 + time));
        x.force(0);
        x.terms(0, 50 * time);
        x.terms(1, 5 + time);
        x.waits(2 - time, 2 - time);
        x.lend(1, 0);
        x.pass();
    }

    private static void change(PeopleLent x) {
        x.book(1, 0, 0, 0);
        x.reader(0, 0);
        x.terms(0, 77);
        x.terms(1, 7);
        x.terms(2, 8);
        x.terms(3, 4);
        Check.law(x, "fines 77;wears 7");
        x.force(2);
        x.lend(0, 0);
        x.pass();
        x.waits(1, 0);
    }

    private static void constants(Sentences s) {
        s.says("The constants: `NONE = -1`: There is none.");
        s.due("NONE", PeopleLent.NONE, -1);
    }
}
