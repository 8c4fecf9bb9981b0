/** Promises 6, 12, 14, 16: what a law tells, law, fault, force. */
public final class LawTest {
    private static final Check c = new Check();

    public static void main(String[] args) {
        faults();
        limits();
        room();
        words();
        clauses();
        sums();
        tests();
        force();
        asks();
        c.finish("LawTest");
    }

    private static void fault(String text, int place) {
        PeopleLent x = new PeopleLent();
        c.due("law: " + text, Check.law(x, text), place == -1 ? 0 : -6);
        c.due("fault: " + text, x.fault(), place);
        c.due("tape: " + text, x.count(6), 0);
        c.due("laws: " + text, x.count(4), place == -1 ? 1 : 0);
        c.due("status: " + text, x.status(), place == -1 ? 0 : -6);
    }

    private static void faults() {
        fault("", 0);
        fault("   ", 3);
        fault("fines 1", -1);
        fault("fines1", -1);
        fault("  fines  1  ;  bars  ", -1);
        fault("fines 1;", 8);
        fault("fines 1; ", 9);
        fault(";", 0);
        fault("fines 1;;bars", 8);
        fault("fines", 5);
        fault("fines  ", 7);
        fault("finesx 1", 0);
        fault("Fines 1", 0);
        fault("fines1bars", 6);
        fault("lend 1 to 1", 0);
        fault("bars 1", 5);
        fault("bars if", 7);
        fault("bars if 1", 9);
        fault("bars if 1<", 10);
        fault("bars if 1<2<3", 11);
        fault("bars if 1<2 and", 15);
        fault("bars if 1<2 or or 1<2", 15);
        fault("bars if not", 11);
        fault("bars if not not not 1=1", -1);
        fault("bars if (1)<2", 10);
        fault("bars if [1]<2", -1);
        fault("bars if (1<2", 12);
        fault("bars if (1<2]", 12);
        fault("bars if ([1+2]*3<4 or not(1=1))and 1>0", -1);
        fault("fines (1)", 6);
        fault("fines [1)", 8);
        fault("fines [1", 8);
        fault("fines []", 7);
        fault("fines -1", 6);
        fault("fines 1-", 8);
        fault("fines 1+*2", 8);
        fault("fines 1 2", 8);
        fault("fines 1<2", 7);
        fault("fines 1000", -1);
        fault("fines 1001", 6);
        fault("fines 0001000", -1);
        fault("fines 99999999999999999999", 6);
        fault("fines 4294967297", 6);
        fault("fines done", 6);
        fault("fines with 1", 6);
        fault("fines book length", 11);
        fault("fines 1 if 1=1 if 1=1", 15);
        fault("fines 1 times 2", 8);
        fault("fines\t1", 5);
        fault("fines 1\0", 7);
        fault("fines 1\u00e9", 7);
        fault("bars if 1<=2", 10);
    }

    private static void limits() {
        fault(Check.many("bars;", 11) + "bars", -1);
        fault(Check.many("bars;", 12) + "bars", 60);
        fault(Check.many("bars;", 12) + "   ?", 63);
        fault(Check.many("bars;", 12), 60);
        fault("fines " + Check.many("1+", 49) + "1", -1);
        fault("fines " + Check.many("1+", 50) + "1", 106);
        fault("fines " + Check.many("1+", 48) + "1 if 1=1", 109);
        fault("fines " + Check.many("1+", 47) + "1 if 1=1", -1);
        fault("fines [1];" + Check.many("fines week;", 10) + "fines " + Check.many("1+", 38) + "1", -1);
        fault("fines [1];" + Check.many("fines week;", 10) + "fines " + Check.many("1+", 39) + "1", 204);
        fault("fines " + Check.many("[", 8) + "1" + Check.many("]", 8), -1);
        fault("fines " + Check.many("[", 9) + "1" + Check.many("]", 9), 14);
        fault("bars if " + Check.many("(", 8) + "1=1" + Check.many(")", 8), -1);
        fault("bars if " + Check.many("(", 9) + "1=1" + Check.many(")", 9), 16);
        fault("bars if " + Check.many("(", 5) + "[[[1]]]=1" + Check.many(")", 5), -1);
        fault("bars if " + Check.many("(", 5) + "[[[[1]]]]=1" + Check.many(")", 5), 16);
        fault("bars if " + Check.many("(1=1)and", 15) + Check.many("[", 8) + "1" + Check.many("]", 8) + "=1", -1);
        fault("bars if " + Check.many("not ", 97) + "1=1", -1);
        fault("bars if 1=1" + Check.many(" ", 389), -1);
        fault("bars if 1=" + Check.many(" ", 390), 400);
        fault(Check.many("?", 400), 0);
        fault("fines 1" + Check.many("?", 393), 7);
        fault(Check.many("7", 400), 0);
        fault("fines " + Check.many("0", 393) + "7", -1);
        fault("bars if " + Check.many("x", 392), 8);
    }

    private static void room() {
        PeopleLent x = new PeopleLent();
        c.due("bad law", Check.law(x, "fines"), -6);
        for (int i = 0; i < 6; i++) {
            c.due("law", Check.law(x, "fines " + i), i);
        }
        c.due("fault", x.fault(), -1);
        c.due("orders with a fault", Check.orders(x, "pass 1"), -6);
        c.due("seventh law", Check.law(x, "fines"), -5);
        c.due("its tape", x.count(6), 0);
        c.due("fault of the latest that read a text", x.fault(), 5);
        c.due("status", x.status(), -5);
        c.due("seventh law, nothing on the tape", x.law(), -5);
        c.due("refused", x.count(10), 2);
        c.due("laws", x.count(4), 6);
        Check.orders(x, "pass");
        c.due("fault", x.fault(), -1);
    }

    private static void tells(String text, int book, int reader, int what, int due) {
        PeopleLent x = Worlds.lawful();
        c.due(text, Check.law(x, text), 0);
        x.force(0);
        c.due(text + ": " + what, x.asks(book, reader, what), due);
    }

    private static void words() {
        tells("fines book", 1, 0, 0, 1);
        tells("fines book", 0, 0, 0, 0);
        tells("fines length", 1, 0, 0, 9);
        tells("fines purse", 1, 0, 0, 55);
        tells("fines reader", 0, 1, 0, 1);
        tells("fines traits", 0, 1, 0, 18);
        tells("fines worn", 0, 1, 0, 2);
        tells("fines kept", 1, 1, 0, 2);
        tells("fines kept+5", 0, 1, 0, 4);
        tells("fines kept+5", 1, 0, 0, 4);
        tells("fines week", 0, 0, 0, 6);
        tells("fines mood", 0, 0, 0, 8);
    }

    private static void clauses() {
        tells("fines 99", 0, 0, 0, 99);
        tells("fines 100", 0, 0, 0, 99);
        tells("fines 0-1", 0, 0, 0, 0);
        tells("wears 20", 0, 0, 1, 20);
        tells("wears 21", 0, 0, 1, 20);
        tells("wears 0-1", 0, 0, 1, 0);
        tells("takes 99", 0, 0, 2, 99);
        tells("takes 100", 0, 0, 2, 99);
        tells("takes 0", 0, 0, 2, 1);
        tells("bars", 0, 0, 3, 1);
        tells("fines 1;fines 5;wears 7", 0, 0, 0, 5);
        tells("fines 1;fines 5 if 1=2", 0, 0, 0, 1);
        tells("fines 1;fines 5/0", 0, 0, 0, 1);
        tells("fines 1;fines 5 if 1/0=1", 0, 0, 0, 1);
        tells("fines 5 if 1=2", 0, 0, 0, 2);
        tells("wears 5 if 1=2", 0, 0, 1, 1);
        tells("takes 5 if 1=2", 0, 0, 2, 4);
        tells("bars if 1=2", 0, 0, 3, 0);
        tells("bars if 1/0=1", 0, 0, 3, 0);
        tells("bars;bars if 1=2", 0, 0, 3, 1);
        tells("bars", 0, 0, 5, 0);
        tells("fines 3", 0, 0, 5, 1);
    }

    private static void sums() {
        tells("fines 2+3*4", 0, 0, 0, 14);
        tells("fines [2+3]*4", 0, 0, 0, 20);
        tells("fines 20-5-3", 0, 0, 0, 12);
        tells("fines 100/7/2", 0, 0, 0, 7);
        tells("fines 7%4*2", 0, 0, 0, 6);
        tells("fines 20+[0-7]/2", 0, 0, 0, 17);
        tells("fines 20+[0-7]%4", 0, 0, 0, 17);
        tells("fines 20+7%[0-4]", 0, 0, 0, 23);
        tells("fines 7%0", 0, 0, 0, 2);
        tells("fines 7/[1-1]", 0, 0, 0, 2);
        tells("fines 1000*1000*1000", 0, 0, 0, 99);
        tells("fines 1000*1000*1000+1", 0, 0, 0, 2);
        tells("fines 0-1000*1000*1000", 0, 0, 0, 0);
        tells("fines 0-1000*1000*1000-1", 0, 0, 0, 2);
        tells("fines [1000*1000*1000+1]%7", 0, 0, 0, 2);
        tells("fines 1000*1000*1000*1000*1000*1000*1000", 0, 0, 0, 2);
        tells("fines 1000*1000*1000*[0-1000]", 0, 0, 0, 2);
        tells("fines [1000*1000*1000+1]*0", 0, 0, 0, 2);
    }

    private static void tests() {
        tells("bars if 1<2", 0, 0, 3, 1);
        tells("bars if 2<2", 0, 0, 3, 0);
        tells("bars if 2>1", 0, 0, 3, 1);
        tells("bars if 2>2", 0, 0, 3, 0);
        tells("bars if 2=2", 0, 0, 3, 1);
        tells("bars if not 2=2", 0, 0, 3, 0);
        tells("bars if not not 2=2", 0, 0, 3, 1);
        tells("bars if 1=1 or 1=2 and 1=2", 0, 0, 3, 1);
        tells("bars if (1=1 or 1=2) and 1=2", 0, 0, 3, 0);
        tells("bars if not 1=2 and 1=1", 0, 0, 3, 1);
        tells("bars if not (1=2 and 1=1)", 0, 0, 3, 1);
        tells("bars if not 1=2 or 1=1", 0, 0, 3, 1);
        tells("bars if 1=1 or 1/0=1", 0, 0, 3, 1);
        tells("bars if 1=2 or 1/0=1", 0, 0, 3, 0);
        tells("bars if 1/0=1 or 1=1", 0, 0, 3, 0);
        tells("bars if not (1=2 and 1/0=1)", 0, 0, 3, 1);
        tells("bars if not (1=1 and 1/0=1)", 0, 0, 3, 0);
        tells("bars if not 1/0=1", 0, 0, 3, 0);
        tells("bars if not (1/0=1 and 1=2)", 0, 0, 3, 0);
    }

    private static void force() {
        PeopleLent x = Worlds.lawful();
        c.due("no such law", x.force(0), -2);
        c.due("status", x.status(), -2);
        c.due("none", x.force(-1), -1);
        c.due("status", x.status(), 0);
        Check.law(x, "fines 7");
        Check.law(x, "fines 8");
        c.due("a law is not in force by itself", x.asks(0, 0, 0), 2);
        c.due("force(1)", x.force(1), -1);
        c.due("fines", x.asks(0, 0, 0), 8);
        c.due("force(0)", x.force(0), 1);
        c.due("fines", x.asks(0, 0, 0), 7);
        c.due("force(2)", x.force(2), -2);
        c.due("force(-2)", x.force(-2), -2);
        c.due("count(12)", x.count(12), 0);
        c.due("force(-1)", x.force(-1), 0);
        c.due("fines", x.asks(0, 0, 0), 2);
        c.due("count(12)", x.count(12), -1);
    }

    private static void asks() {
        PeopleLent x = Worlds.lawful();
        int[] due = {2, 1, 4, 0, 1, 1};
        for (int what = 0; what < 6; what++) {
            c.due("asks(0, 0, " + what + ")", x.asks(0, 0, what), due[what]);
        }
        c.due("asks(0, 0, -1)", x.asks(0, 0, -1), -1);
        c.due("asks(0, 0, 6)", x.asks(0, 0, 6), -1);
        c.due("asks(2, 0, 0)", x.asks(2, 0, 0), -1);
        c.due("asks(0, 2, 0)", x.asks(0, 2, 0), -1);
        c.due("asks(-1, 0, 0)", x.asks(-1, 0, 0), -1);
        c.due("asks(0, -1, 0)", x.asks(0, -1, 0), -1);
        c.due("a book that has one can't have another", x.asks(1, 0, 5), 0);
        c.due("a reader with a book can't be had", x.asks(0, 1, 5), 0);
        c.due("it fits all the same", x.asks(0, 1, 4), 1);
        x.book(1, 8, 0, 0);
        c.due("one that does not fit", x.asks(2, 0, 4), 0);
        c.due("one that does not fit can't be had", x.asks(2, 0, 5), 0);
        x.reader(63, 1);
        c.due("a rare one fits", x.asks(0, 2, 4), 1);
        c.due("a rare one can't be had", x.asks(0, 2, 5), 0);
    }
}
