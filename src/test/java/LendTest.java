/** Promises 17 to 21 and 23, 30: lend, bring, waits, pass, undo, turn, owed. */
public final class LendTest {
    private static final Check c = new Check();

    public static void main(String[] args) {
        refusals();
        leaving();
        lendingOn();
        askedAhead();
        fines();
        weekSetBack();
        waiting();
        turns();
        passing();
        undoing();
        owed();
        c.finish("LendTest");
    }

    private static void refusals() {
        PeopleLent x = new PeopleLent();
        x.book(1, 0, 0, 0);
        x.book(1, 1, 0, 0);
        x.reader(0, 0);
        x.reader(1, 0);
        x.reader(63, 1);
        c.due("no reader", x.lend(3, 0), -2);
        c.due("no reader", x.lend(-1, 0), -2);
        c.due("no book", x.lend(0, 2), -2);
        c.due("no book", x.lend(0, -1), -2);
        c.due("does not fit", x.lend(0, 1), -3);
        c.due("rare", x.lend(2, 0), -3);
        c.due("bring from the desk", x.bring(0), -3);
        c.due("bring no one", x.bring(3), -2);
        c.due("bring no one", x.bring(-1), -2);
        c.due("lend", x.lend(0, 0), 0);
        c.due("to the same book", x.lend(0, 0), -3);
        c.due("to a book that has one", x.lend(1, 0), -3);
        c.due("rare and no such book", x.lend(2, 2), -2);
        c.due("refused by -2", x.count(8), 7);
        c.due("refused by -3", x.count(9), 5);
        c.due("undos", x.count(5), 1);
        Check.law(x, "wears 20");
        x.force(0);
        for (int i = 0; i < 4; i++) {
            x.pass();
        }
        c.due("worn", x.at(0, 2), 80);
        Check.law(x, "wears 18");
        Check.law(x, "wears 19;bars if book=1");
        x.force(1);
        x.pass();
        c.due("worn 98", x.at(0, 2), 98);
        c.due("brought", x.bring(0), 0);
        c.due("worn 98 can be lent", x.asks(0, 0, 5), 1);
        x.undo();
        x.undo();
        x.force(2);
        x.pass();
        c.due("worn 99", x.at(0, 2), 99);
        x.bring(0);
        c.due("worn 99 can't be lent", x.lend(0, 0), -3);
        c.due("worn 99 can't be had", x.asks(0, 0, 5), 0);
        c.due("barred", x.lend(1, 1), -3);
        c.due("not barred", x.lend(1, 0), 0);
    }

    private static void leaving() {
        PeopleLent x = new PeopleLent();
        x.book(3, 0, 5, 100);
        x.reader(2, 0);
        x.lend(0, 0);
        x.pass();
        x.pass();
        c.due("two weeks of three", x.bring(0), 0);
        c.due("not read", x.at(0, 5), 0);
        c.due("traits", x.at(0, 0), 2);
        x.lend(0, 0);
        c.due("since", x.at(0, 4), 2);
        x.pass();
        x.pass();
        x.pass();
        c.due("three weeks of three, none late", x.bring(0), 0);
        c.due("read", x.at(0, 5), 1);
        c.due("traits", x.at(0, 0), 7);
        c.due("purse", x.of(0, 3), 100);
        c.due("with none", x.of(0, 4), -1);
        c.due("count(2)", x.count(2), 0);
    }

    private static void lendingOn() {
        PeopleLent x = new PeopleLent();
        x.book(2, 0, 1, 5);
        x.book(1, 1, 2, 5);
        x.reader(0, 0);
        x.reader(0, 0);
        x.lend(0, 0);
        x.pass();
        c.due("it does not fit yet", x.lend(0, 1), -3);
        c.due("nothing is changed", x.at(0, 3), 0);
        c.due("since", x.at(0, 4), 0);
        x.pass();
        c.due("it fits by what it has read", x.lend(0, 1), 0);
        c.due("with", x.at(0, 3), 1);
        c.due("traits", x.at(0, 0), 1);
        c.due("read", x.at(0, 5), 1);
        c.due("since", x.at(0, 4), 2);
        c.due("it can be had by no other", x.lend(1, 0), 0);
        x.terms(0, 9);
        c.due("pays the book that it leaves", x.bring(0), 5);
        c.due("purse", x.of(1, 3), 0);
        Check.law(x, "bars if traits=3 and book=0; bars if kept>0 and book=0");
        x.bring(1);
        x.force(0);
        c.due("barred by what it has read", x.lend(0, 0), -3);
        c.due("not barred by weeks with another book", x.lend(1, 0), 0);
    }

    private static void askedAhead() {
        PeopleLent x = new PeopleLent();
        Check.law(x, "fines traits+purse; takes 4 if traits=0; takes 90 if traits>0; bars if traits=1 and book=1");
        x.force(0);
        x.book(1, 0, 1, 500);
        x.book(1, 0, 1, 500);
        x.reader(0, 0);
        x.terms(1, 1);
        x.lend(0, 0);
        x.terms(0, 4);
        c.due("barred with the traits behind", x.lend(0, 1), -3);
        c.due("nothing is paid", x.of(0, 3), 500);
        c.due("three late weeks at 99", x.bring(0), 297);
        c.due("traits", x.at(0, 0), 1);
        c.due("purse", x.of(0, 3), 203);
        x.lend(0, 0);
        x.terms(0, 20);
        c.due("as far as the purse has it", x.bring(0), 203);
        c.due("purse", x.of(0, 3), 0);
    }

    private static void fines() {
        PeopleLent x = new PeopleLent();
        x.book(9, 0, 0, 999);
        x.reader(0, 0);
        x.lend(0, 0);
        x.terms(0, 3);
        c.due("not late", x.owed(-1), 0);
        x.pass();
        c.due("one week late", x.owed(-1), 2);
        x.pass();
        c.due("two weeks late", x.bring(0), 4);
        c.due("purse", x.of(0, 3), 995);
    }

    private static void weekSetBack() {
        PeopleLent x = new PeopleLent();
        x.book(1, 0, 1, 999);
        x.reader(0, 0);
        x.terms(0, 10);
        x.lend(0, 0);
        x.terms(0, 4);
        Check.law(x, "fines 0-kept");
        c.due("kept", x.force(0), -1);
        c.due("kept is below 0", x.asks(0, 0, 0), 6);
        c.due("nothing is late", x.bring(0), 0);
        c.due("nothing is read", x.at(0, 5), 0);
    }

    private static void waiting() {
        PeopleLent x = new PeopleLent();
        for (int b = 0; b < 4; b++) {
            x.book(1, 0, 0, 0);
        }
        for (int r = 0; r < 4; r++) {
            x.reader(0, r == 3 ? 1 : 0);
        }
        c.due("no book", x.waits(4, 0), -2);
        c.due("no reader", x.waits(0, 4), -2);
        c.due("no book", x.waits(-1, 0), -2);
        c.due("no reader", x.waits(0, -1), -2);
        x.lend(0, 0);
        c.due("has that one", x.waits(0, 0), -3);
        c.due("another book", x.waits(1, 0), 1);
        c.due("twice", x.waits(1, 0), -3);
        c.due("a rare one", x.waits(0, 3), 2);
        int n = 2;
        for (int b = 0; b < 4; b++) {
            for (int r = 1; r < 4; r++) {
                if (n < 12 && (b != 0 || r != 3)) {
                    n++;
                    c.due("waits", x.waits(b, r), n);
                }
            }
        }
        c.due("the thirteenth", x.waits(3, 0), -5);
        c.due("twice, and no room", x.waits(1, 0), -3);
        c.due("no such, and no room", x.waits(9, 0), -2);
        c.due("count(3)", x.count(3), 12);
        c.due("lent", x.lend(0, 1), 0);
        c.due("over", x.count(3), 11);
        c.due("room again", x.waits(0, 0), 12);
    }

    private static void turns() {
        PeopleLent x = new PeopleLent();
        x.book(1, 4, 0, 0);
        x.book(1, 0, 0, 0);
        x.book(1, 0, 0, 0);
        x.reader(0, 0);
        x.reader(0, 0);
        c.due("none waits", x.turn(0), -1);
        x.waits(0, 0);
        c.due("it does not fit", x.turn(0), -1);
        x.waits(2, 0);
        x.waits(1, 0);
        x.waits(1, 1);
        c.due("the first that can have it", x.turn(0), 2);
        c.due("another reader's", x.turn(1), 1);
        x.lend(1, 2);
        c.due("a book that has one", x.turn(0), 1);
        c.due("not at the desk", x.turn(1), -1);
        c.due("no reader", x.turn(2), -1);
        c.due("no reader", x.turn(-1), -1);
        x.lend(0, 1);
        c.due("not at the desk", x.turn(0), -1);
        x.bring(0);
        c.due("its waiting is over", x.turn(0), -1);
    }

    private static void passing() {
        PeopleLent x = new PeopleLent();
        x.book(1, 0, 0, 0);
        x.book(1, 0, 0, 0);
        x.reader(0, 0);
        x.reader(0, 0);
        x.reader(0, 0);
        Check.law(x, "wears 3+week if book=0; wears worn+1 if book=1");
        x.force(0);
        x.lend(0, 0);
        x.lend(1, 1);
        c.due("pass", x.pass(), 1);
        c.due("pass", x.pass(), 2);
        c.due("worn by the week as it was ahead", x.at(0, 2), 7);
        c.due("worn", x.at(1, 2), 3);
        c.due("not at the desk", x.at(2, 2), 0);
        x.terms(0, 998);
        c.due("to 999", x.pass(), 999);
        c.due("not beyond", x.pass(), -3);
        c.due("status", x.status(), -3);
        c.due("not worn by that", x.at(0, 2), 27);
    }

    private static void undoing() {
        PeopleLent x = new PeopleLent();
        c.due("nothing", x.undo(), -3);
        x.book(1, 0, 3, 10);
        x.book(1, 0, 0, 10);
        x.reader(0, 0);
        x.waits(1, 0);
        x.waits(0, 0);
        x.lend(0, 0);
        x.pass();
        x.force(-1);
        Check.law(x, "fines 9");
        x.force(0);
        x.lend(0, 1);
        x.image(0);
        c.due("count(5)", x.count(5), 5);
        c.due("lend", x.undo(), 0);
        c.due("book", x.at(0, 3), 0);
        c.due("traits", x.at(0, 0), 0);
        c.due("read", x.at(0, 5), 0);
        c.due("waiting", x.count(3), 1);
        c.due("force stays", x.count(12), 0);
        c.due("laws stay", x.count(4), 1);
        c.due("pass", x.undo(), 3);
        c.due("worn", x.at(0, 2), 0);
        c.due("week", x.count(13), 0);
        c.due("lend", x.undo(), 0);
        c.due("waiting in its order", x.count(3), 2);
        c.due("turn", x.turn(0), 1);
        c.due("refused ones do not count", x.bring(0), -3);
        c.due("refused book", x.book(0, 0, 0, 0), -1);
        c.due("refused terms", x.terms(0, -1), -1);
        c.due("refused reader", x.reader(-1, 0), -1);
        c.due("refused row", x.row(), -6);
        c.due("waits", x.undo(), 2);
        x.book(1, 0, 0, 0);
        c.due("nothing ahead of a book", x.undo(), -3);
        x.pass();
        x.reader(0, 0);
        c.due("nothing ahead of a reader", x.undo(), -3);
        x.pass();
        x.terms(3, 0);
        c.due("nothing ahead of terms", x.undo(), -3);
        for (int i = 0; i < 20; i++) {
            x.pass();
        }
        c.due("count(5)", x.count(5), 16);
        for (int i = 0; i < 16; i++) {
            c.due("undo", x.undo(), 3);
        }
        c.due("no more than 16", x.undo(), -3);
        c.due("week", x.count(13), 6);
    }

    private static void owed() {
        PeopleLent x = new PeopleLent();
        x.book(1, 0, 0, 100);
        x.book(1, 0, 0, 7);
        x.book(1, 0, 0, 100);
        x.reader(0, 0);
        x.reader(0, 0);
        x.reader(0, 0);
        c.due("none", x.owed(-1), 0);
        x.lend(0, 0);
        x.lend(1, 1);
        x.terms(0, 2);
        x.lend(2, 2);
        x.terms(0, 8);
        Check.law(x, "fines 10");
        Check.law(x, "fines book; wears 20; bars");
        c.due("by none", x.owed(-1), 10 + 7 + 6);
        c.due("by law 0", x.owed(0), 50 + 7 + 30);
        c.due("by law 1", x.owed(1), 0 + 5 + 6);
        x.force(0);
        c.due("by none", x.owed(-1), 23);
        c.due("by law 1", x.owed(1), 11);
        c.due("no such law", x.owed(2), -1);
        c.due("no such law", x.owed(-2), -1);
        c.due("nothing is changed", x.of(0, 3), 100);
        c.due("status", x.status(), 0);
    }
}
