/** Terms, III: how one leaves, is lent, brought, waits, and how a week passes. */
final class LendSentences {
    private LendSentences() {
    }

    static void run(Sentences s) {
        leaving(s);
        paying(s);
        lending(s);
        must(s);
        lent(s);
        bringing(s);
        weeks(s);
    }

    /** Book 0 of some length that gives 5, with reader 0 (traits 2) since week 0. */
    private static PeopleLent kept(int length, int purse) {
        PeopleLent x = new PeopleLent();
        x.book(length, 0, 5, purse);
        x.reader(2, 0);
        x.lend(0, 0);
        return x;
    }

    private static void read(Sentences s, PeopleLent x, int week, int read, int traits) {
        x.terms(0, week);
        s.due("bring at week " + week, x.bring(0) >= 0 ? 1 : 0, 1);
        s.due("read", x.at(0, 5), read);
        s.due("traits", x.at(0, 0), traits);
    }

    private static void leaving(Sentences s) {
        s.says("III. A READER leaves a BOOK: if it was kept as many weeks as the BOOK TAKES or more, the BOOK is READ "
            + "and what it GIVES are TRAITS, too;");
        read(s, kept(3, 0), 0, 0, 2);
        read(s, kept(3, 0), 2, 0, 2);
        read(s, kept(3, 0), 3, 1, 7);
        read(s, kept(3, 0), 4, 1, 7);
        read(s, kept(1, 0), 0, 0, 2);
        read(s, kept(1, 0), 1, 1, 7);
        read(s, kept(9, 0), 8, 0, 2);
        read(s, kept(9, 0), 9, 1, 7);
        read(s, kept(1, 0), 999, 1, 7);
        for (int takes : new int[] {1, 5, 99}) {
            for (int week = takes - 1; week <= takes; week++) {
                PeopleLent x = kept(3, 0);
                Check.law(x, "takes " + takes);
                x.force(0);
                read(s, x, week, week < takes ? 0 : 1, week < takes ? 2 : 7);
            }
        }
        PeopleLent back = new PeopleLent();
        back.book(1, 0, 5, 9);
        back.reader(2, 0);
        back.terms(0, 500);
        back.lend(0, 0);
        read(s, back, 499, 0, 2);
        s.due("nothing is paid for weeks below none", back.of(0, 3), 9);
    }

    private static void pays(Sentences s, int purse, int weeks, int week, String law, int due) {
        PeopleLent x = kept(9, purse);
        x.terms(1, weeks);
        x.terms(0, week);
        Check.law(x, law);
        x.force(0);
        s.due("pays " + due + " of " + purse, x.bring(0), due);
        s.due("its purse", x.of(0, 3), purse - due);
    }

    private static void paying(Sentences s) {
        s.says("for each week beyond WEEKS the BOOK pays what it FINES, as far as its PURSE has it (all asked as it "
            + "was ahead).");
        pays(s, 100, 3, 3, "bars", 0);
        pays(s, 100, 3, 4, "bars", 2);
        pays(s, 100, 3, 5, "bars", 4);
        pays(s, 100, 1, 1, "fines 10", 0);
        pays(s, 100, 1, 2, "fines 10", 10);
        pays(s, 100, 20, 20, "fines 10", 0);
        pays(s, 100, 20, 21, "fines 10", 10);
        pays(s, 100, 1, 11, "fines 10", 100);
        pays(s, 100, 1, 12, "fines 10", 100);
        pays(s, 99, 1, 11, "fines 10", 99);
        pays(s, 101, 1, 11, "fines 10", 100);
        pays(s, 0, 1, 11, "fines 10", 0);
        pays(s, 999, 1, 999, "fines 99", 999);
        pays(s, 100, 1, 9, "fines 0", 0);
        pays(s, 50, 1, 3, "fines purse-40", 20);
        pays(s, 100, 1, 20, "fines traits", 38);
        pays(s, 100, 1, 20, "fines kept", 100);
        PeopleLent x = kept(3, 100);
        Check.law(x, "takes 3 if traits=2;takes 99 if traits>2;fines traits+purse-100");
        x.force(0);
        x.terms(0, 4);
        s.due("by the traits and the purse ahead", x.bring(0), 2);
        s.due("read by the traits ahead", x.at(0, 5), 1);
    }

    private static void lending(Sentences s) {
        s.says("To LEND a READER, from the DESK or from a BOOK (which it leaves first), to another BOOK, which has "
            + "none:");
        PeopleLent x = new PeopleLent();
        x.book(2, 0, 1, 10);
        x.book(2, 0, 2, 10);
        x.reader(0, 0);
        x.reader(0, 0);
        s.due("from the desk", x.lend(0, 0), 0);
        s.due("it is with it", x.at(0, 3), 0);
        x.terms(0, 5);
        s.due("from a book, which pays", x.lend(0, 1), 4);
        s.due("its purse", x.of(0, 3), 6);
        s.due("it was read", x.at(0, 5), 1);
        s.due("it gave", x.at(0, 0), 1);
        s.due("it is with the other", x.at(0, 3), 1);
        s.due("the one has none", x.of(0, 4), -1);
        s.due("the other has it", x.of(1, 4), 0);
        s.refused("to the book that it is with", Worlds::rich, y -> y.lend(0, 0), -3);
        s.refused("to a book that has another one", Worlds::rich, y -> y.lend(0, 1), -3);
        s.refused("from the desk to a book that has one", Worlds::rich, y -> y.lend(2, 1), -3);
    }

    /** Reader 0 (traits 0) is with book 0, which takes 2 weeks and gives 1; book 1 wants some. */
    private static PeopleLent onward(int wants, int week, String law) {
        PeopleLent x = new PeopleLent();
        x.book(2, 0, 1, 100);
        x.book(1, wants, 0, 100);
        x.reader(0, 0);
        x.lend(0, 0);
        x.terms(0, week);
        Check.law(x, law);
        x.force(0);
        return x;
    }

    private static void must(Sentences s) {
        s.says("it must FIT that with the TRAITS it has when it has left,");
        s.due("not read yet", onward(1, 1, "fines 1").lend(0, 1), -3);
        s.due("read", onward(1, 2, "fines 1").lend(0, 1), 0);
        s.due("wants more", onward(3, 2, "fines 1").lend(0, 1), -3);
        s.due("wants nothing", onward(0, 1, "fines 1").lend(0, 1), 0);
        s.refused("not read yet", () -> onward(1, 1, "fines 1"), x -> x.lend(0, 1), -3);
        s.refused("read, but wants more", () -> onward(3, 9, "fines 1"), x -> x.lend(0, 1), -3);

        s.says("not be BARRED from it (asked likewise),");
        s.refused("barred", () -> onward(0, 2, "bars if book=1"), x -> x.lend(0, 1), -3);
        s.refused("barred by what it has just read", () -> onward(0, 9, "bars if traits=1"), x -> x.lend(0, 1), -3);
        s.due("not read yet", onward(0, 1, "bars if traits=1").lend(0, 1), 0);
        s.due("no more barred when read", onward(0, 2, "bars if traits=0").lend(0, 1), 0);
        s.due("barred from the other one", onward(0, 2, "bars if book=0").lend(0, 1), 0);
        s.due("kept is of that book", onward(0, 2, "bars if kept>0-1").lend(0, 1), 0);
        s.due("kept is -1", onward(0, 2, "bars if kept=0-1").lend(0, 1), -3);
        s.due("its purse", onward(0, 9, "fines 1;bars if purse<100").lend(0, 1), 6);
        PeopleLent desk = onward(0, 0, "bars if reader=1 and book=1");
        desk.reader(0, 0);
        s.due("from the desk", desk.lend(1, 1), -3);

        s.says("not be RARE,");
        PeopleLent rare = new PeopleLent();
        rare.book(1, 0, 0, 0);
        rare.reader(63, 1);
        rare.reader(63, 0);
        s.due("rare", rare.lend(0, 0), -3);
        s.due("not rare", rare.lend(1, 0), 0);
        s.refused("rare", Worlds::rich, x -> x.lend(2, 2), -3);

        s.says("not be WORN 99:");
        PeopleLent worn = onward(0, 0, "wears 20;wears 18 if week=4;wears 19 if week=4 and mood=1");
        for (int week = 0; week < 5; week++) {
            worn.pass();
        }
        s.due("worn 98", worn.at(0, 2), 98);
        s.due("worn 98 is lent", worn.lend(0, 1), 4);
        worn.pass();
        s.due("worn 99", worn.at(0, 2), 99);
        s.due("worn 99 is not lent on", worn.lend(0, 0), -3);
        s.due("worn 99 is brought", worn.bring(0), 0);
        s.due("worn 99 is not lent", worn.lend(0, 0), -3);
        s.refused("worn 99", Worlds::full, x -> x.lend(4, 4), -3);
        s.refused("worn 99 from a book", Worlds::full, x -> x.lend(1, 4), -3);
    }

    private static void lent(Sentences s) {
        s.says("it is WITH that SINCE this WEEK; if it cannot be, nothing is changed.");
        PeopleLent x = onward(0, 7, "fines 1;wears kept+5");
        s.due("lend", x.lend(0, 1), 4);
        s.due("with", x.at(0, 3), 1);
        s.due("since", x.at(0, 4), 7);
        s.due("kept no week yet", x.asks(1, 0, 1), 5);
        s.refused("it would have left, but does not fit", () -> onward(2, 9, "fines 5"), y -> y.lend(0, 1), -3);
        s.refused("it would have left, but is barred", () -> onward(0, 9, "bars"), y -> y.lend(0, 1), -3);

        s.says("WAITING of that BOOK for that READER are over.");
        PeopleLent w = new PeopleLent();
        for (int b = 0; b < 3; b++) {
            w.book(1, 0, 0, 0);
        }
        w.reader(0, 0);
        w.reader(0, 0);
        w.waits(0, 0);
        w.waits(1, 0);
        w.waits(1, 1);
        w.waits(2, 0);
        s.due("lend", w.lend(0, 1), 0);
        s.due("one is over", w.count(3), 3);
        s.due("that of another reader is not", w.waits(1, 1), -3);
        s.due("that of another book is not", w.waits(2, 0), -3);
        w.bring(0);
        s.due("the order stays", w.turn(0), 0);
        s.due("it can wait again", w.waits(1, 0), 4);
        s.due("last then", w.lend(0, 0), 0);
        w.bring(0);
        s.due("next in order", w.turn(0), 2);
        for (int one = 0; one < 12; one++) {
            PeopleLent full = twelveWait();
            s.due("one of twelve", full.lend(one / 3, one % 3), 0);
            s.due("it is over", full.count(3), 11);
            for (int other = 0; other < 12; other++) {
                s.due("the others are not", full.waits(other % 3, other / 3) == -3 ? 1 : 0, 1);
            }
        }
        PeopleLent first = new PeopleLent();
        first.book(1, 0, 0, 0);
        first.reader(0, 0);
        s.due("none waits", first.lend(0, 0), 0);
        s.due("none is over", first.count(3), 0);
    }

    /** Books 0, 1, 2 wait for readers 0 .. 3 each, reader by reader. */
    private static PeopleLent twelveWait() {
        PeopleLent x = new PeopleLent();
        for (int b = 0; b < 3; b++) {
            x.book(1, 0, 0, 0);
        }
        for (int r = 0; r < 4; r++) {
            x.reader(0, 0);
        }
        for (int one = 0; one < 12; one++) {
            x.waits(one % 3, one / 3);
        }
        return x;
    }

    private static void bringing(Sentences s) {
        s.says("To BRING one to the DESK: it leaves. To WAIT.");
        PeopleLent x = kept(2, 100);
        x.terms(0, 5);
        s.due("bring", x.bring(0), 4);
        s.due("at the desk", x.at(0, 3), -1);
        s.due("since none", x.at(0, 4), -1);
        s.due("the book has none", x.of(0, 4), -1);
        s.due("read", x.at(0, 5), 1);
        s.refused("from the desk", Worlds::rich, y -> y.bring(2), -3);
        s.due("wait", x.waits(0, 0), 1);
        s.due("one waits", x.count(3), 1);
        s.due("bring leaves who waits", x.lend(0, 0), 0);
        x.reader(0, 0);
        x.waits(0, 1);
        x.bring(0);
        s.due("one waits yet", x.count(3), 1);
    }

    private static void weeks(Sentences s) {
        s.says("A week (WEEK below 999): all WITH a BOOK are WORN by what that WEARS (99 at most), asked as it was "
            + "ahead; it is the next WEEK.");
        PeopleLent x = new PeopleLent();
        for (int b = 0; b < 3; b++) {
            x.book(1, 0, 0, 0);
        }
        for (int r = 0; r < 4; r++) {
            x.reader(0, 0);
        }
        x.lend(0, 2);
        x.lend(1, 0);
        x.lend(3, 1);
        s.due("the next week", x.pass(), 1);
        int[] one = {1, 1, 0, 1};
        for (int r = 0; r < 4; r++) {
            s.due("worn of " + r, x.at(r, 2), one[r]);
        }
        Check.law(x, "wears 20 if book=2;wears worn+week+kept+5 if book=0;wears 0 if book=1");
        x.force(0);
        s.due("the next week", x.pass(), 2);
        int[] two = {21, 9, 0, 1};
        for (int r = 0; r < 4; r++) {
            s.due("worn of " + r, x.at(r, 2), two[r]);
        }
        for (int week = 3; week < 6; week++) {
            x.pass();
        }
        s.due("worn 81", x.at(0, 2), 81);
        x.pass();
        s.due("99 at most", x.at(0, 2), 99);
        x.pass();
        s.due("99 at most", x.at(0, 2), 99);
        x.terms(0, 998);
        s.due("week 998", x.pass(), 999);
        s.due("week 999", x.pass(), -3);
        s.refused("week 999", Worlds::full, y -> y.pass(), -3);
    }
}
