import java.util.function.Supplier;

/** Promises 1 to 21: what changes the library, and what tells of it. */
final class PromiseSentences {
    private static final int MIN = Integer.MIN_VALUE;
    private static final int MAX = Integer.MAX_VALUE;

    private PromiseSentences() {
    }

    static void run(Sentences s) {
        shelves(s);
        questions(s);
        tape(s);
        rows(s);
        laws(s);
        orders(s);
        faults(s);
        force(s);
        lendings(s);
        undo(s);
        forgets(s);
    }

    private static void shelves(Sentences s) {
        s.says("`PeopleLent()`: Empty shelves.");
        PeopleLent x = new PeopleLent();
        int[] due = {0, 0, 0, 0, 0, 0, 0, 0, 0, 0, 0, 0, -1, 0, 3, 1, 0};
        for (int what = 0; what < 17; what++) {
            s.due("count(" + what + ")", x.count(what), due[what]);
        }
        s.due("slips()", x.slips(), 0);
        s.due("fault()", x.fault(), -1);
        s.due("stopped()", x.stopped(), -1);
        s.due("status()", x.status(), 0);
        s.due("drawn(0, 0)", x.drawn(0, 0), -1);
        s.due("drawn(0, 3)", x.drawn(0, 3), -1);

        s.says("`int book(int length, int wants, int gives, int purse)`: A BOOK: its number. -1; -5.");
        s.due("book", x.book(2, 3, 4, 5), 0);
        s.due("status()", x.status(), 0);
        for (int what = 0; what < 4; what++) {
            s.due("of(0, " + what + ")", x.of(0, what), 2 + what);
        }
        s.due("with none", x.of(0, 4), -1);
        s.refused("-1", Worlds::full, y -> y.book(0, 64, -1, 1000), -1);
        s.refused("-5", Worlds::full, y -> y.book(1, 0, 0, 0), -5);

        s.says("`int of(int book, int what)`: Of a BOOK LENGTH (what 0), WANTS (1), GIVES (2), PURSE (3), the READER "
            + "with it (4; NONE). NONE.");
        PeopleLent rich = Worlds.rich();
        int[] book = {3, 1, 2, 400, 1};
        for (int what = 0; what < 5; what++) {
            s.due("of(1, " + what + ")", rich.of(1, what), book[what]);
        }
        s.due("with none", rich.of(2, 4), -1);
        for (int one : new int[] {MIN, -1, 3, 8, MAX}) {
            s.none("of(" + one + ", 0)", Worlds::rich, y -> y.of(one, 0));
        }
        for (int what : new int[] {MIN, -1, 5, MAX}) {
            s.none("of(0, " + what + ")", Worlds::rich, y -> y.of(0, what));
        }

        s.says("`int reader(int traits, int rare)`: A READER: the number. -1; -5.");
        s.due("reader", x.reader(63, 1), 0);
        s.due("status()", x.status(), 0);
        int[] reader = {63, 1, 0, -1, -1, 0};
        for (int what = 0; what < 6; what++) {
            s.due("at(0, " + what + ")", x.at(0, what), reader[what]);
        }
        s.refused("-1", Worlds::full, y -> y.reader(64, 0), -1);
        s.refused("-5", Worlds::full, y -> y.reader(63, 0), -5);
    }

    private static void questions(Sentences s) {
        s.says("`int at(int reader, int what)`: Of a READER TRAITS (what 0), RARE (1: 1, 0), WORN (2), the BOOK (3; "
            + "NONE: the DESK), SINCE (4; NONE at the DESK), READ as bits (5). NONE.");
        PeopleLent x = Worlds.rich();
        int[][] due = {{0, 0, 4, 0, 0, 0}, {3, 0, 2, 1, 0, 0}, {63, 1, 0, -1, -1, 0}};
        for (int r = 0; r < 3; r++) {
            for (int what = 0; what < 6; what++) {
                s.due("at(" + r + ", " + what + ")", x.at(r, what), due[r][what]);
            }
        }
        x.bring(0);
        int[] desk = {1, 0, 4, -1, -1, 1};
        for (int what = 0; what < 6; what++) {
            s.due("brought: at(0, " + what + ")", x.at(0, what), desk[what]);
        }
        for (int one : new int[] {MIN, -1, 3, 6, MAX}) {
            s.none("at(" + one + ", 0)", Worlds::rich, y -> y.at(one, 0));
        }
        for (int what : new int[] {MIN, -1, 6, MAX}) {
            s.none("at(0, " + what + ")", Worlds::rich, y -> y.at(0, what));
        }

        s.says("`int asks(int book, int reader, int what)`: Of a BOOK and a READER what it FINES (what 0), how one is "
            + "WORN (1), how long it TAKES (2), whether BARRED (3: 1, 0), FITS (4: 1, 0), it CAN HAVE one (5: 1, 0). "
            + "NONE.");
        PeopleLent y = Worlds.rich();
        y.bring(1);
        int[][][] asks = {{{3, 2, 2, 0, 1, 0}, {3, 2, 2, 0, 1, 0}}, {{3, 1, 3, 0, 0, 0}, {3, 1, 3, 0, 1, 1}},
            {{3, 1, 1, 0, 0, 0}, {3, 1, 1, 0, 1, 1}}};
        for (int b = 0; b < 3; b++) {
            for (int r = 0; r < 2; r++) {
                for (int what = 0; what < 6; what++) {
                    s.due("asks(" + b + ", " + r + ", " + what + ")", y.asks(b, r, what), asks[b][r][what]);
                }
            }
        }
        y.terms(3, 9);
        s.due("barred", y.asks(2, 1, 3), 1);
        s.due("barred can't be had", y.asks(2, 1, 5), 0);
        for (int one : new int[] {MIN, -1, 3, MAX}) {
            s.none("asks(" + one + ", 0, 0)", Worlds::rich, z -> z.asks(one, 0, 0));
            s.none("asks(0, " + one + ", 0)", Worlds::rich, z -> z.asks(0, one, 0));
        }
        for (int what : new int[] {MIN, -1, 6, MAX}) {
            s.none("asks(0, 0, " + what + ")", Worlds::rich, z -> z.asks(0, 0, what));
        }

        s.says("`int terms(int what, int value)`: A TERM: what it was. -1.");
        PeopleLent t = new PeopleLent();
        int[] was = {0, 3, 1, 0};
        for (int what = 0; what < 4; what++) {
            s.due("terms", t.terms(what, 5), was[what]);
            s.due("terms", t.terms(what, 6), 5);
            s.due("the same again", t.terms(what, 6), 6);
            s.due("count", t.count(13 + what), 6);
        }
        for (int what : new int[] {MIN, -1, 4, MAX}) {
            s.refused("terms(" + what + ", 1)", Worlds::rich, z -> z.terms(what, 1), -1);
        }
    }

    private static void tape(Sentences s) {
        s.says("`int feed(int a, int b, int c, int d, int e)`: Twenty bytes come behind the TAPE, four of each number, "
            + "the highest first: how many it has.");
        PeopleLent x = new PeopleLent();
        s.due("feed", x.feed(0x01020304, 0x05060708, 0x09000102, 0x02030405, 0x03040506), 20);
        s.due("row", x.row(), 5);
        int[][] books = {{1, 2, 3, 40}, {5, 6, 7, 80}, {9, 0, 1, 20}, {2, 3, 4, 50}, {3, 4, 5, 60}};
        for (int b = 0; b < 5; b++) {
            for (int what = 0; what < 4; what++) {
                s.due("of(" + b + ", " + what + ")", x.of(b, what), books[b][what]);
            }
        }
        s.due("a byte above 127", x.feed(0xFF000000, 0x80000000, 0x01FF0000, 0x0100FF00, 0x010000FF), 20);
        s.due("each is a slip", x.row(), 0);
        s.due("five slips", x.slips(), 5);
        s.due("behind", x.feed(0, 0, 0, 0, 0), 20);
        s.due("behind", x.feed(0, 0, 0, 0, 0), 40);
        x.end(1);
        s.due("behind one", x.feed(0, 0, 0, 0, 0), 21);

        s.says("NONE, if there would be more than 400.");
        PeopleLent y = new PeopleLent();
        for (int n = 20; n <= 400; n += 20) {
            s.due("feed", y.feed(0, 0, 0, 0, 0), n);
        }
        s.none("feed beyond", Worlds::full, z -> z.feed(0, 0, 0, 0, 0));
        for (int n : new int[] {399, 381}) {
            s.due("end", y.end(n), n);
            s.due("feed beyond", y.feed(1, 1, 1, 1, 1), -1);
            s.due("it has", y.count(6), n);
        }
        s.due("end", y.end(380), 380);
        s.due("just 400", y.feed(1, 1, 1, 1, 1), 400);

        s.says("`int end(int n)`: The TAPE has its first n bytes alone: n.");
        PeopleLent e = new PeopleLent();
        s.due("0 of 0", e.end(0), 0);
        e.feed(0x01000001, 0x01000002, 0x01000003, 0, 0);
        s.due("20 of 20", e.end(20), 20);
        s.due("8 of 20", e.end(8), 8);
        s.due("it has", e.count(6), 8);
        s.due("row", e.row(), 2);
        s.due("of(1, 3)", e.of(1, 3), 20);
        e.feed(0, 0, 0, 0, 0);
        s.due("0 of 20", e.end(0), 0);
        s.due("it is empty", e.row(), -6);

        s.says("NONE, if it has not so many, or n is below 0.");
        s.none("end(6) of 5", Worlds::rich, z -> z.end(6));
        s.none("end(1) of 0", Worlds::empty, z -> z.end(1));
        s.none("end(401) of 400", Worlds::full, z -> z.end(401));
        s.none("end(-1)", Worlds::rich, z -> z.end(-1));
        s.none("end(MIN)", Worlds::rich, z -> z.end(MIN));
        s.none("end(MAX)", Worlds::full, z -> z.end(MAX));
    }

    private static void rows(Sentences s) {
        s.says("`int row()`: A ROW, the TAPE is empty then: how many BOOKS came. -6 the TAPE is empty.");
        PeopleLent x = new PeopleLent();
        x.feed(0x01000000, 0, 0x02000000, 0, 0);
        s.due("row", x.row(), 2);
        s.due("the tape is empty", x.count(6), 0);
        s.due("status()", x.status(), 0);
        s.due("again", x.row(), -6);
        x.feed(0, 0, 0, 0, 0);
        s.due("none came", x.row(), 0);
        s.due("status()", x.status(), 0);
        s.due("the tape is empty", x.count(6), 0);
        s.refused("an empty tape", Worlds::empty, y -> y.row(), -6);
        s.refused("an empty tape, a full shelf", PromiseSentences::fullButTape, y -> y.row(), -6);

        s.says("`int slips()`: How many SLIPS the latest row() had that was not REFUSED (0 ahead of any).");
        PeopleLent y = new PeopleLent();
        s.due("ahead of any", y.slips(), 0);
        y.row();
        s.due("refused", y.slips(), 0);
        y.feed(0, 0, 0x01000000, 0, 0);
        y.row();
        s.due("four", y.slips(), 4);
        y.row();
        s.due("refused", y.slips(), 4);
        y.feed(0x01000000, 0, 0, 0, 0);
        y.end(4);
        y.row();
        s.due("none", y.slips(), 0);
        s.due("asked again", y.slips(), 0);
    }

    private static PeopleLent fullButTape() {
        PeopleLent x = Worlds.full();
        x.end(0);
        return x;
    }

    private static void laws(Sentences s) {
        s.says("`int law()`: The TAPE, which is empty then, becomes a LAW: its number.");
        PeopleLent x = new PeopleLent();
        for (int law = 0; law < 6; law++) {
            s.due("law", Check.law(x, "fines " + law), law);
            s.due("the tape is empty", x.count(6), 0);
            s.due("laws", x.count(4), law + 1);
            s.due("status()", x.status(), 0);
        }
        PeopleLent long1 = new PeopleLent();
        long1.book(1, 0, 0, 0);
        long1.reader(0, 0);
        for (int time = 0; time < 12; time++) {
            Check.orders(long1, "pass if " + Check.many("1=1 and ", 24) + "1=2");
        }
        s.due("behind long texts", Check.law(long1, "fines " + Check.many("1+", 49) + "1"), 0);
        long1.force(0);
        s.due("it is all there", long1.asks(0, 0, 0), 50);
        s.due("an earlier law stays", Check.law(long1, "fines 7"), 1);
        s.due("fines", long1.asks(0, 0, 0), 50);

        s.says("-5 (ahead of reading it; the TAPE is empty then, too); -6 (blanks alone: FAULT at the end).");
        for (String text : new String[] {"fines 1", "fines", ""}) {
            asFull(s, text);
        }
        s.lawFault("", 0);
        s.lawFault(" ", 1);
        s.lawFault("    ", 4);
        s.lawFault(Check.many(" ", 400), 400);
        s.lawFault("fines", 5);
    }

    private static void asFull(Sentences s, String text) {
        PeopleLent x = Worlds.full();
        x.end(0);
        Check.law(x, "bars");
        int fault = x.fault();
        Check.orders(x, "pass pass");
        s.due("no room: " + text, Check.law(x, text), -5);
        s.due("the tape is empty: " + text, x.count(6), 0);
        s.due("it was not read: " + text, x.fault(), 5);
        s.due("nor the first: " + text, fault, -1);
        s.due("laws: " + text, x.count(4), 6);
    }

    private static void orders(Sentences s) {
        s.says("`int orders()`: ORDERS, the TAPE is empty then: how many were run.");
        PeopleLent x = Worlds.rich();
        x.end(0);
        s.due("orders", Check.orders(x, "pass times 2;pass if 1=2;bring 0"), 3);
        s.due("the tape is empty", x.count(6), 0);
        s.due("status()", x.status(), 0);
        s.due("none", Check.orders(x, "pass if 1=2"), 0);
        s.due("as many as can be", Check.orders(Worlds.empty(), Check.many("pass times 20;", 11) + "pass times 20"),
            240);

        s.says("-3 one can't be; -6 (as for law()).");
        s.ordersStop("bring 2", Worlds::rich, 0);
        s.ordersFault("", 0);
        s.ordersFault(" ", 1);
        s.ordersFault(Check.many(" ", 400), 400);
        s.ordersFault("bring", 5);
    }

    private static void faults(Sentences s) {
        s.says("`int fault()`: FAULT of the latest law(), orders() that read a TEXT: its place; NONE without.");
        PeopleLent x = new PeopleLent();
        s.due("ahead of any", x.fault(), -1);
        Check.law(x, "fines");
        s.due("law with one", x.fault(), 5);
        s.due("asked again", x.fault(), 5);
        Check.orders(x, "pass");
        s.due("orders without", x.fault(), -1);
        Check.orders(x, "pass ;");
        s.due("orders with one", x.fault(), 6);
        Check.law(x, "bars");
        s.due("law without", x.fault(), -1);
        Check.orders(x, "?");
        Check.orders(x, "pass;bring 0");
        s.due("orders that can't be, without", x.fault(), -1);
        Check.orders(x, "pass pass");
        x.pass();
        x.row();
        x.undo();
        s.due("others leave it", x.fault(), 5);
        for (int law = 1; law < 6; law++) {
            Check.law(x, "bars");
        }
        Check.orders(x, "pass pass");
        s.due("a seventh law", Check.law(x, "fines 1"), -5);
        s.due("reads no text", x.fault(), 5);
        s.due("a seventh law, no text", x.law(), -5);
        s.due("reads no text", x.fault(), 5);

        s.says("`int stopped()`: Which CLAUSE of the latest orders() could not be. NONE.");
        PeopleLent y = new PeopleLent();
        s.due("ahead of any", y.stopped(), -1);
        Check.orders(y, "bring 0");
        s.due("the first", y.stopped(), 0);
        Check.orders(y, Check.many("pass;", 11) + "bring 0;");
        s.due("with a fault", y.stopped(), -1);
        Check.orders(y, Check.many("pass;", 11) + "bring 0");
        s.due("the twelfth", y.stopped(), 11);
        Check.law(y, "?");
        y.bring(0);
        y.pass();
        s.due("others leave it", y.stopped(), 11);
        Check.orders(y, "pass");
        s.due("without", y.stopped(), -1);
        Check.orders(y, "bring 0 if 1=2;pass;bring 0 times 3");
        s.due("those not run count, too", y.stopped(), 2);
    }

    private static void force(Sentences s) {
        s.says("`int force(int law)`: A LAW is in FORCE (NONE: none): which was. -2.");
        PeopleLent x = Worlds.rich();
        s.due("force(1)", x.force(1), 0);
        s.due("status()", x.status(), 0);
        s.due("is", x.count(12), 1);
        s.due("fines", x.asks(0, 0, 0), 9);
        s.due("the same again", x.force(1), 1);
        s.due("none", x.force(-1), 1);
        s.due("fines", x.asks(0, 0, 0), 2);
        s.due("none again", x.force(-1), -1);
        s.due("status()", x.status(), 0);
        s.due("none refused", x.count(8), 0);
        for (int law : new int[] {MIN, -2, 2, 6, MAX}) {
            s.refused("force(" + law + ")", Worlds::rich, y -> y.force(law), -2);
        }
        s.refused("force(0) of none", Worlds::empty, y -> y.force(0), -2);
        s.refused("force(6) of six", Worlds::full, y -> y.force(6), -2);
    }

    private static void lendings(Sentences s) {
        s.says("`int lend(int reader, int book)`: To LEND: what the BOOK pays that it leaves (0 from the DESK). -2; -3.");
        PeopleLent x = Worlds.rich();
        s.due("what it pays", x.lend(1, 2), 3);
        s.due("status()", x.status(), 0);
        s.due("from the desk", Worlds.empty().lend(0, 0), -2);
        PeopleLent desk = Worlds.rich();
        desk.bring(1);
        s.due("0 from the desk", desk.lend(1, 2), 0);
        for (int one : new int[] {MIN, -1, 3, MAX}) {
            s.refused("lend(" + one + ", 2)", Worlds::rich, y -> y.lend(one, 2), -2);
            s.refused("lend(1, " + one + ")", Worlds::rich, y -> y.lend(1, one), -2);
        }
        s.refused("lend(1, 1)", Worlds::rich, y -> y.lend(1, 1), -3);

        s.says("`int bring(int reader)`: To BRING: what the BOOK pays. -2; -3.");
        PeopleLent b = Worlds.rich();
        s.due("what it pays", b.bring(0), 3);
        s.due("status()", b.status(), 0);
        s.due("again", b.bring(0), -3);
        for (int one : new int[] {MIN, -1, 3, MAX}) {
            s.refused("bring(" + one + ")", Worlds::rich, y -> y.bring(one), -2);
        }
        s.refused("bring(2)", Worlds::rich, y -> y.bring(2), -3);

        s.says("`int waits(int book, int reader)`: To WAIT: how many are WAITING then. -2; -3 it waits already, has "
            + "that one; -5.");
        PeopleLent w = Worlds.rich();
        s.due("how many", w.waits(2, 0), 4);
        s.due("status()", w.status(), 0);
        s.due("a book that has another one", w.waits(0, 1), 5);
        s.due("a rare one", w.waits(1, 2), 6);
        for (int one : new int[] {MIN, -1, 3, MAX}) {
            s.refused("waits(" + one + ", 0)", Worlds::rich, y -> y.waits(one, 0), -2);
            s.refused("waits(0, " + one + ")", Worlds::rich, y -> y.waits(0, one), -2);
        }
        s.refused("it waits already", Worlds::rich, y -> y.waits(1, 0), -3);
        s.refused("it has that one", Worlds::rich, y -> y.waits(0, 0), -3);
        s.refused("no room", Worlds::full, y -> y.waits(5, 5), -5);

        s.says("`int pass()`: A week: the WEEK. -3.");
        PeopleLent p = new PeopleLent();
        s.due("pass", p.pass(), 1);
        s.due("pass", p.pass(), 2);
        p.terms(0, 998);
        s.due("pass", p.pass(), 999);
        s.due("status()", p.status(), 0);
        s.due("pass", p.pass(), -3);
        s.refused("at week 999", Worlds::full, y -> y.pass(), -3);
    }

    private static void undo(Sentences s) {
        s.says("`int undo()`: The latest lend(), bring(), waits(), pass() (by ORDERS, too; 16 are kept) is undone: "
            + "0 .. 3.");
        PeopleLent x = new PeopleLent();
        x.book(1, 0, 1, 10);
        x.reader(0, 0);
        x.waits(0, 0);
        x.lend(0, 0);
        Check.orders(x, "pass times 5;bring 0");
        s.due("how many", x.count(5), 8);
        s.due("traits", x.at(0, 0), 1);
        s.due("purse", x.of(0, 3), 6);
        s.due("bring", x.undo(), 1);
        s.due("traits", x.at(0, 0), 0);
        s.due("read", x.at(0, 5), 0);
        s.due("with", x.at(0, 3), 0);
        s.due("since", x.at(0, 4), 0);
        s.due("purse", x.of(0, 3), 10);
        for (int week = 4; week >= 0; week--) {
            s.due("pass", x.undo(), 3);
            s.due("week", x.count(13), week);
            s.due("worn", x.at(0, 2), week);
        }
        s.due("lend", x.undo(), 0);
        s.due("at the desk", x.at(0, 3), -1);
        s.due("it waits", x.turn(0), 0);
        s.due("status()", x.status(), 0);
        s.due("waits", x.undo(), 2);
        s.due("none waits", x.count(3), 0);
        s.due("nothing more", x.undo(), -3);
        PeopleLent y = new PeopleLent();
        for (int week = 0; week < 17; week++) {
            y.pass();
            s.due("16 at most", y.count(5), Math.min(16, week + 1));
        }
        for (int week = 0; week < 16; week++) {
            s.due("undo", y.undo(), 3);
        }
        s.due("the 17th", y.undo(), -3);
        s.due("week", y.count(13), 1);
        Check.orders(y, "pass times 18");
        s.due("16 at most by orders", y.count(5), 16);
        y.undo();
        y.pass();
        y.pass();
        s.due("16 at most", y.count(5), 16);
        for (int week = 19; week > 3; week--) {
            s.due("undo", y.undo(), 3);
            s.due("week", y.count(13), week);
        }
        s.due("the 17th", y.undo(), -3);
        PeopleLent twice = new PeopleLent();
        Check.orders(twice, "pass");
        Check.orders(twice, "pass;bring 0");
        Check.orders(twice, "pass times 2");
        s.due("those of each text once", twice.count(5), 3);
        for (int week = 2; week >= 0; week--) {
            s.due("undo", twice.undo(), 3);
            s.due("week", twice.count(13), week);
        }
        s.due("none", twice.undo(), -3);
        PeopleLent law = Worlds.rich();
        law.pass();
        law.force(1);
        s.due("undo", law.undo(), 3);
        s.due("laws stay in force", law.count(12), 1);
        s.due("years stay", law.drawn(0, 0), Worlds.rich().drawn(0, 0));
    }

    private static void forgotten(Sentences s, String name, Still.Deed deed) {
        PeopleLent x = Worlds.rich();
        s.due(name, deed.on(x) >= 0 ? 1 : 0, 1);
        s.due("none can be undone behind " + name, x.count(5), 0);
        s.due("undo behind " + name, x.undo(), -3);
        x.pass();
        s.due("what came behind " + name, x.undo(), 3);
        s.due("no more behind " + name, x.undo(), -3);
    }

    private static void kept(Sentences s, String name, Supplier<PeopleLent> world, Still.Deed deed) {
        PeopleLent x = world.get();
        int can = x.count(5);
        s.due(name, deed.on(x) < 0 ? 1 : 0, 1);
        s.due("as many can be undone behind " + name, x.count(5), can);
        s.due("undo behind " + name, x.undo() >= 0 ? 1 : 0, 1);
    }

    private static void forgets(Sentences s) {
        s.says("-3 there is none (nothing that was ahead of a book(), reader(), row(), terms() that was not REFUSED "
            + "can be undone).");
        s.refused("nothing", Worlds::empty, x -> x.undo(), -3);
        forgotten(s, "book", x -> x.book(1, 0, 0, 0));
        forgotten(s, "reader", x -> x.reader(0, 0));
        forgotten(s, "row", x -> x.row());
        forgotten(s, "row of slips alone", x -> {
            x.end(1);
            return x.row();
        });
        for (int what = 0; what < 4; what++) {
            int one = what;
            forgotten(s, "terms " + what, x -> x.terms(one, 5));
            forgotten(s, "terms as they are " + what, x -> x.terms(one, x.count(13 + one)));
        }
        forgotten(s, "back", x -> x.back(0));
        kept(s, "refused book", Worlds::rich, x -> x.book(0, 0, 0, 0));
        kept(s, "refused ninth book", Worlds::full, x -> x.book(1, 0, 0, 0));
        kept(s, "refused reader", Worlds::rich, x -> x.reader(64, 0));
        kept(s, "refused seventh reader", Worlds::full, x -> x.reader(0, 0));
        kept(s, "refused terms", Worlds::rich, x -> x.terms(0, -1));
        kept(s, "refused row", Worlds::rich, x -> x.end(0) + x.row());
        kept(s, "refused back", Worlds::rich, x -> x.back(2));
    }
}
