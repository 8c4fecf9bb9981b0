/** Promises 13 to 15: orders, fault, stopped. */
public final class OrdersTest {
    private static final Check c = new Check();

    public static void main(String[] args) {
        faults();
        limits();
        words();
        times();
        whollyOrNot();
        undone();
        latest();
        c.finish("OrdersTest");
    }

    private static void fault(String text, int place) {
        PeopleLent x = Worlds.orderly();
        c.due("orders: " + text, Check.orders(x, text) == -6 ? 1 : 0, place == -1 ? 0 : 1);
        c.due("fault: " + text, x.fault(), place);
        c.due("tape: " + text, x.count(6), 0);
    }

    private static void faults() {
        fault("", 0);
        fault("  ", 2);
        fault("pass", -1);
        fault("pass;", 5);
        fault("pass pass", 5);
        fault("pass times 1", -1);
        fault("pass times 20", -1);
        fault("pass times 0", 11);
        fault("pass times 21", 11);
        fault("pass times", 10);
        fault("pass times week", 11);
        fault("pass times 2 if 1=1", -1);
        fault("pass if 1=1 times 2", 12);
        fault("pass if", 7);
        fault("pass 1", 5);
        fault("lend", 4);
        fault("lend 0", 6);
        fault("lend 0 for 0", 7);
        fault("lend 0 to", 9);
        fault("lend 0 to 0", -1);
        fault("lend[0]to[0]times 1 if(1=1)", -1);
        fault("bring", 5);
        fault("bring 0 to 0", 8);
        fault("wait 0", 6);
        fault("wait 0 to 0", 7);
        fault("wait 0 for 0", -1);
        fault("waits 0 for 0", 0);
        fault("fines 1", 0);
        fault("bring kept", 6);
        fault("bring mood", 6);
        fault("bring with", 10);
        fault("bring with 5", -1);
        fault("bring with 6", 11);
        fault("bring worn 5", -1);
        fault("bring worn 6", 11);
        fault("bring purse 7", -1);
        fault("bring purse 8", 12);
        fault("bring purse week", 12);
        fault("bring with [0]", 11);
        fault("bring with 000000000000005", -1);
        fault("bring week done", 11);
    }

    private static void limits() {
        fault(Check.many("pass;", 11) + "pass", -1);
        fault(Check.many("pass;", 12) + "pass", 60);
        fault(Check.many("pass;", 12), 60);
        fault("bring " + Check.many("1+", 49) + "1 times 3", -1);
        fault("bring " + Check.many("1+", 50) + "1", 106);
        fault("bring " + Check.many("1+", 49) + "with 1 times 3", -1);
        fault("bring " + Check.many("1+", 50) + "with 1", 106);
        fault("bring " + Check.many("1+", 50) + "with 9", 106);
        fault("lend " + Check.many("1+", 30) + "1 to " + Check.many("1+", 18) + "1", -1);
        fault("lend " + Check.many("1+", 30) + "1 to " + Check.many("1+", 19) + "1", 108);
        fault("bring " + Check.many("[", 9) + "1" + Check.many("]", 9), 14);
    }

    private static void told(String sum, int due) {
        PeopleLent x = Worlds.orderly();
        x.lend(1, 1);
        x.terms(0, 5);
        x.pass();
        x.waits(0, 1);
        x.waits(2, 0);
        c.due(sum + " is " + (due + 1), Check.orders(x, "pass if " + sum + "=" + (due + 1)), 0);
        c.due(sum + " is " + due, Check.orders(x, "pass if " + sum + "=" + due), 1);
    }

    private static void words() {
        told("week", 6);
        told("done", 0);
        told("1+latest", 0);
        told("waiting", 2);
        told("with 1", 1);
        told("1+with 0", 0);
        told("1+with 5", 0);
        told("worn 1", 1);
        told("worn 0", 0);
        told("1+worn 3", 0);
        told("purse 0", 100);
        told("purse 1", 7);
        told("1+purse 3", 0);
    }

    private static void times() {
        PeopleLent x = Worlds.orderly();
        c.due("pass times 20", Check.orders(x, "pass times 20"), 20);
        c.due("week", x.count(13), 20);
        c.due("if is asked each time", Check.orders(x, "pass times 20 if week<23"), 3);
        c.due("week", x.count(13), 23);
        c.due("done grows", Check.orders(x, "pass times 5 if done<2; pass if done=2"), 3);
        c.due("broken if is not run", Check.orders(x, "pass if 1/0=1; pass"), 1);
        c.due("stopped", x.stopped(), -1);
        c.due("nothing run", Check.orders(x, "bring 7 if 1=2"), 0);
        c.due("status", x.status(), 0);
        c.due("sums are asked each time", Check.orders(x, "wait done for 0 times 3"), 3);
        c.due("waiting", x.count(3), 3);
    }

    private static void stops(String text, int clause) {
        PeopleLent x = Worlds.orderly();
        x.lend(0, 0);
        x.pass();
        c.due("orders: " + text, Check.orders(x, text), -3);
        c.due("stopped: " + text, x.stopped(), clause);
        c.due("fault: " + text, x.fault(), -1);
        c.due("status: " + text, x.status(), -3);
        c.due("one call refused: " + text, x.count(9), 1);
        c.due("none by -2: " + text, x.count(8), 0);
        c.due("none by -5: " + text, x.count(10), 0);
        int[] due = {0, 0, 1, 0, 0, 0};
        for (int what = 0; what < 6; what++) {
            c.due("at(0, " + what + "): " + text, x.at(0, what), due[what]);
        }
        c.due("waiting: " + text, x.count(3), 0);
        c.due("week: " + text, x.count(13), 1);
        c.due("undos: " + text, x.count(5), 2);
        c.due("undo: " + text, x.undo(), 3);
        c.due("undo: " + text, x.undo(), 0);
    }

    private static void whollyOrNot() {
        stops("bring 1", 0);
        stops("pass;bring 0;bring 0", 2);
        stops("pass times 19;lend 0 to 1;bring 0;lend 0 to 2", 3);
        stops("pass times 20;bring 7", 1);
        stops("pass;bring 1/0", 1);
        stops("lend 0 to 1/0", 0);
        stops("pass;wait 0 for 0", 1);
        stops("wait 1 for 1;wait 1 for 1", 1);
        stops("wait 9 for 1", 0);
        stops("wait 0-1 for 1", 0);
        stops("lend 2 to 1", 0);
        stops("bring 0 times 2", 0);
        PeopleLent x = Worlds.orderly();
        x.terms(0, 990);
        c.due("beyond week 999", Check.orders(x, "pass times 10"), -3);
        c.due("week", x.count(13), 990);
        c.due("to week 999", Check.orders(x, "pass times 9"), 9);
        c.due("stopped is of the latest", x.stopped(), -1);
        Check.orders(x, "pass");
        c.due("stopped", x.stopped(), 0);
        Check.orders(x, "pass pass");
        c.due("stopped of one with a fault", x.stopped(), -1);
        PeopleLent full = new PeopleLent();
        for (int b = 0; b < 8; b++) {
            full.book(1, 0, 0, 0);
        }
        full.reader(0, 0);
        full.reader(0, 0);
        c.due("twelve wait", Check.orders(full, "wait done for 0 times 8;wait done-8 for 1 times 4"), 12);
        c.due("a thirteenth can't", Check.orders(full, "wait 7 for 1"), -3);
    }

    private static void undone() {
        PeopleLent x = Worlds.orderly();
        Check.orders(x, "lend 0 to 0;pass times 3;bring 0;wait 0 for 0");
        c.due("can be undone", x.count(5), 6);
        int[] due = {2, 1, 3, 3, 3, 0, -3};
        for (int i = 0; i < due.length; i++) {
            c.due("undo", x.undo(), due[i]);
        }
        x.waits(1, 1);
        Check.orders(x, "pass times 15");
        c.due("sixteen", x.count(5), 16);
        Check.orders(x, "pass times 20");
        c.due("sixteen", x.count(5), 16);
        for (int week = 34; week >= 19; week--) {
            c.due("undo", x.undo(), 3);
            c.due("week", x.count(13), week);
        }
        c.due("the first were forgotten", x.undo(), -3);
    }

    private static void latest() {
        PeopleLent x = Worlds.orderly();
        x.lend(0, 0);
        x.lend(1, 1);
        x.terms(0, 7);
        c.due("latest", Check.orders(x,
            "bring 0; pass if latest=8; pass if latest=9; lend 0 to 0; pass if latest=0; bring 1; pass if latest=7"), 6);
        c.due("latest is of this text alone", Check.orders(x, "pass if latest=0-1"), 1);
        c.due("pass, wait leave it", Check.orders(x, "bring 0;pass;wait 0 for 0;pass if latest=0"), 4);
    }
}
