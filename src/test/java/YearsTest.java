/** Promises 32 and 33: years, drawn. */
public final class YearsTest {
    private static final Check c = new Check();

    public static void main(String[] args) {
        refusals();
        byHand();
        broughtOrLent();
        paperAlone();
        theEnd();
        c.finish("YearsTest");
    }

    private static void refusals() {
        PeopleLent x = new PeopleLent();
        c.due("nothing", x.years(0, 1), -3);
        c.due("bad seed first", x.years(-1, 1), -1);
        x.book(1, 0, 0, 0);
        c.due("no readers", x.years(0, 1), -3);
        x.reader(0, 0);
        c.due("seed -1", x.years(-1, 1), -1);
        c.due("seed beyond", x.years(1000001, 1), -1);
        c.due("no weeks", x.years(0, 0), -1);
        c.due("61 weeks", x.years(0, 61), -1);
        c.due("none drawn", x.drawn(0, 0), -1);
        c.due("none drawn", x.drawn(0, 3), -1);
        c.due("status", x.status(), -1);
        c.due("most", x.years(1000000, 60), 0);
        c.due("status", x.status(), 0);
        c.due("drawn", x.drawn(0, 0), 0);
        PeopleLent y = new PeopleLent();
        y.reader(0, 0);
        c.due("no books", y.years(0, 1), -3);
    }

    /**
     * From seed 0 s becomes 12345, 628841, 621889; 953857, 113460, 158350; 671873, 86041, ..: reader 0 and book 1,
     * which it does not fit; reader 1 and book 0; reader 2 and book 1.
     */
    private static void byHand() {
        PeopleLent x = new PeopleLent();
        x.book(1, 0, 1, 10);
        x.book(1, 1, 2, 20);
        x.reader(4, 0);
        x.reader(8, 0);
        x.reader(16, 0);
        c.due("one week", x.years(0, 1), 0);
        c.due("not lent", x.drawn(0, 2), -1);
        c.due("not lent", x.drawn(1, 2), -1);
        c.due("not worn", x.drawn(1, 1), 0);
        c.due("two weeks", x.years(0, 2), 0);
        c.due("lent", x.drawn(1, 2), 0);
        c.due("worn", x.drawn(1, 1), 1);
        c.due("not lent", x.drawn(0, 2), -1);
        c.due("three weeks", x.years(0, 3), 0);
        c.due("worn", x.drawn(1, 1), 2);
        c.due("not lent", x.drawn(2, 2), -1);
        c.due("traits", x.drawn(1, 0), 8);
        c.due("purse", x.drawn(1, 3), 20);
        c.due("no such book", x.drawn(2, 3), -1);
        c.due("no such reader", x.drawn(3, 0), -1);
        c.due("no such reader", x.drawn(-1, 0), -1);
        c.due("no such book", x.drawn(-1, 3), -1);
        c.due("drawn(0, 4)", x.drawn(0, 4), -1);
        c.due("drawn(0, -1)", x.drawn(0, -1), -1);
    }

    private static void broughtOrLent() {
        PeopleLent x = new PeopleLent();
        x.book(1, 0, 1, 100);
        x.book(1, 0, 2, 100);
        x.reader(0, 0);
        x.lend(0, 0);
        x.terms(0, 5);
        for (int seed = 0; seed < 200; seed++) {
            long first = (seed * 1103L + 12345) % 1000003;
            long second = (first * 1103 + 12345) % 1000003;
            long third = (second * 1103 + 12345) % 1000003;
            boolean brought = third % 3 == 0;
            boolean lent = !brought && second % 2 == 1;
            c.due("paid with seed " + seed, x.years(seed, 1), brought || lent ? 4 : 0);
            c.due("book with seed " + seed, x.drawn(0, 2), brought ? -1 : lent ? 1 : 0);
            c.due("purse with seed " + seed, x.drawn(0, 3), brought || lent ? 96 : 100);
            c.due("traits with seed " + seed, x.drawn(0, 0), brought || lent ? 1 : 0);
        }
        x.bring(0);
        for (int seed = 0; seed < 50; seed++) {
            long second = ((seed * 1103L + 12345) % 1000003 * 1103 + 12345) % 1000003;
            x.years(seed, 1);
            c.due("from the desk with seed " + seed, x.drawn(0, 2), second % 2);
        }
    }

    private static void paperAlone() {
        PeopleLent x = new PeopleLent();
        x.book(1, 0, 1, 999);
        x.reader(0, 0);
        x.lend(0, 0);
        Check.law(x, "fines 5");
        x.force(0);
        int paid = x.years(7, 60);
        c.due("something is paid", paid > 0 ? 1 : 0, 1);
        c.due("it is the purse's", x.drawn(0, 3), 999 - paid);
        c.due("what it gives", x.drawn(0, 0), 1);
        c.due("the same again", x.years(7, 60), paid);
        c.due("week", x.count(13), 0);
        c.due("purse", x.of(0, 3), 999);
        c.due("traits", x.at(0, 0), 0);
        c.due("undos", x.count(5), 1);
        x.image(0);
        x.reader(2, 0);
        c.due("a later reader is not in it", x.drawn(1, 0), -1);
        x.book(1, 0, 0, 0);
        c.due("a later book is not in it", x.drawn(1, 3), -1);
        c.due("refused years leave it", x.years(0, 0), -1);
        c.due("purse", x.drawn(0, 3), 999 - paid);
        x.years(7, 1);
        x.back(0);
        c.due("an image does not keep it", x.drawn(1, 0), 2);
    }

    private static void theEnd() {
        PeopleLent x = new PeopleLent();
        x.book(9, 0, 1, 0);
        x.reader(0, 0);
        x.lend(0, 0);
        Check.law(x, "wears 1; bars");
        x.force(0);
        x.terms(0, 996);
        x.terms(1, 20);
        x.years(1, 60);
        c.due("three weeks at most", x.drawn(0, 1) <= 3 ? 1 : 0, 1);
        x.terms(0, 999);
        c.due("no week", x.years(1, 60), 0);
        c.due("worn", x.drawn(0, 1), 0);
        c.due("with", x.drawn(0, 2), 0);
    }
}
