/** Terms, II: orders. */
final class OrderSentences {
    private OrderSentences() {
    }

    static void run(Sentences s) {
        clauses(s);
        words(s);
        parts(s);
        running(s);
        told(s);
        stopping(s);
    }

    private static void clauses(Sentences s) {
        s.says("ORDERS: CLAUSE: (\"lend\" SUM \"to\" SUM | \"bring\" SUM | \"wait\" SUM \"for\" SUM | \"pass\") "
            + "[\"times\" TIMES] [\"if\" TEST].");
        s.ordersRead("lend 0 to 0;bring 0;wait 0 for 0;pass");
        s.ordersRead("lend 0 to 0 times 2 if 1=1;bring 0 times 2 if 1=1;wait 0 for 0 times 2 if 1=1");
        s.ordersRead("pass times 2 if 1=1");
        s.ordersRead("lend[0]to[0]times 1if(1=1)");
        s.ordersFault("lend", 4);
        s.ordersFault("lend to 0", 5);
        s.ordersFault("lend 0", 6);
        s.ordersFault("lend 0 for 0", 7);
        s.ordersFault("lend 0 to", 9);
        s.ordersFault("lend 0 to;", 9);
        s.ordersFault("lend 0 to 0 to 0", 12);
        s.ordersFault("bring", 5);
        s.ordersFault("bring 0 to 0", 8);
        s.ordersFault("wait 0", 6);
        s.ordersFault("wait 0 to 0", 7);
        s.ordersFault("wait for 0", 5);
        s.ordersFault("waits 0 for 0", 0);
        s.ordersFault("waiting", 0);
        s.ordersFault("pass 1", 5);
        s.ordersFault("pass if 1=1 times 2", 12);
        s.ordersFault("pass times 2 times 2", 13);
        s.ordersFault("pass if 1=1 if 1=1", 12);
        for (String law : new String[] {"fines 1", "wears 1", "takes 1", "bars"}) {
            s.ordersFault(law, 0);
        }

        s.says("(a READER, a BOOK; a READER; a BOOK, a READER; a week.)");
        PeopleLent x = Worlds.orderly();
        s.due("lend, wait, pass", Check.orders(x, "lend 0 to 1;wait 2 for 1;pass"), 3);
        s.due("reader 0 with book 1", x.at(0, 3), 1);
        s.due("book 2 waits for reader 1", x.waits(2, 1), -3);
        s.due("a week", x.count(13), 1);
        s.due("bring", Check.orders(x, "bring 0"), 1);
        s.due("at the desk", x.at(0, 3), -1);

        s.says("TIMES: a NUMBER 1 .. 20.");
        s.due("once", Check.orders(Worlds.orderly(), "pass times 1"), 1);
        s.due("20 times", Check.orders(Worlds.orderly(), "pass times 20"), 20);
        s.ordersFault("pass times 0", 11);
        s.ordersFault("pass times 21", 11);
        s.ordersFault("pass times 1000", 11);
        s.ordersFault("pass times 1001", 11);
        s.ordersFault("pass times", 10);
        s.ordersFault("pass times week", 11);
        s.ordersFault("pass times [2]", 11);
        s.ordersFault("pass times 2+1", 12);
        s.ordersFault("pass times if 1=1", 11);
    }

    private static void words(Sentences s) {
        s.says("Words: \"week\" | \"done\" | \"latest\" | \"waiting\" | \"with\" R | \"worn\" R | \"purse\" B "
            + "(R: a NUMBER 0 .. 5, B: 0 .. 7).");
        for (String word : new String[] {"week", "done", "latest", "waiting", "with 0", "with 5", "worn 0", "worn 5",
            "purse 0", "purse 7"}) {
            s.ordersRead("pass if " + word + "=1");
            s.ordersFault("pass if " + word + " 1", 9 + word.length());
        }
        s.ordersFault("pass if with 6=1", 13);
        s.ordersFault("pass if worn 6=1", 13);
        s.ordersFault("pass if purse 8=1", 14);
        s.ordersFault("pass if with=1", 12);
        s.ordersFault("pass if worn=1", 12);
        s.ordersFault("pass if purse=1", 13);
        s.ordersFault("pass if with week=1", 13);
        s.ordersFault("pass if with [0]=1", 13);
        s.ordersFault("pass if purse 1001=1", 14);
        s.ordersFault("pass if with", 12);
        s.ordersFault("pass if week 0=1", 13);
        for (String no : new String[] {"book", "length", "reader", "traits", "kept", "mood", "x"}) {
            s.ordersFault("pass if " + no + "=1", 8);
        }
    }

    private static void parts(Sentences s) {
        s.says("R, B, TIMES aside, NUMBERS and words count as PARTS.");
        String fortyNine = Check.many("0+", 49);
        s.ordersRead("bring " + fortyNine + "0 times 20");
        s.ordersRead("bring " + fortyNine + "with 0 times 20");
        s.ordersRead("bring " + Check.many("worn 0+", 48) + "purse 7+week times 20");
        s.ordersFault("bring " + fortyNine + "0+with 0", 106);
        s.ordersFault("bring " + fortyNine + "0+with 9", 106);
        s.ordersFault("bring " + fortyNine + "with 9", 109);
        s.ordersFault("bring " + fortyNine + "0 if week=0", 109);
        s.ordersFault("bring " + fortyNine + "0 times 21 if week=0", 112);
        s.ordersFault("bring " + fortyNine + "0;pass times 3;bring 0", 125);
        s.ordersRead("lend " + Check.many("0+", 30) + "0 to " + Check.many("0+", 18) + "0");
        s.ordersFault("lend " + Check.many("0+", 30) + "0 to " + Check.many("0+", 19) + "0", 108);
    }

    private static void running(Sentences s) {
        s.says("Run CLAUSE by CLAUSE, each as often as TIMES tell (once without);");
        PeopleLent x = Worlds.orderly();
        s.due("once", Check.orders(x, "pass"), 1);
        s.due("week", x.count(13), 1);
        s.due("as often", Check.orders(x, "pass times 3;pass;pass times 2"), 6);
        s.due("week", x.count(13), 7);
        s.due("one behind the other", Check.orders(x, "lend 0 to 0;lend 1 to 1;bring 0;lend 1 to 0"), 4);
        s.due("with", x.at(1, 3), 0);

        s.says("each time its \"if\" is asked (not run, if it is not so or BROKEN), then its SUMS from the left.");
        PeopleLent y = Worlds.orderly();
        s.due("as long as it is so", Check.orders(y, "pass times 20 if week<4"), 4);
        s.due("not so at first, so later", Check.orders(y, "pass times 3 if week>4;pass;pass times 3 if week>4"), 4);
        s.due("not so", Check.orders(y, "pass if 1=2"), 0);
        s.due("not refused", y.status(), 0);
        s.due("not stopped", y.stopped(), -1);
        s.due("broken", Check.orders(y, "pass if 1/0=1;pass if not 1/0=1;pass"), 1);
        s.due("what can't be is not asked", Check.orders(y, "bring 9 if 1=2;bring 1/0 if 1=2;lend 0 to 9 if 2/0=1"), 0);
        s.due("sums each time anew", Check.orders(y, "wait done for 0 times 3"), 3);
        s.due("how many wait", y.count(3), 3);
        s.due("by the week of then", Check.orders(y, "pass times 2;bring week-9 if with 0>0-1"), 2);
    }

    private static void value(Sentences s, PeopleLent x, String ahead, String word, int due) {
        int run = Check.orders(x, ahead + "pass times 20 if 1=2;pass if 1+" + word + "=" + (1 + due));
        int runAhead = ahead.isEmpty() ? 0 : ahead.split(";").length;
        s.due(ahead + " " + word, run, 1 + runAhead);
    }

    private static PeopleLent lent() {
        PeopleLent x = Worlds.orderly();
        x.lend(1, 1);
        x.pass();
        x.pass();
        x.waits(0, 1);
        x.waits(2, 0);
        return x;
    }

    private static void told(Sentences s) {
        s.says("done: how many were run in this TEXT,");
        value(s, Worlds.orderly(), "", "done", 0);
        value(s, Worlds.orderly(), "pass;pass;", "done", 2);
        PeopleLent x = Worlds.orderly();
        s.due("those not run aside", Check.orders(x, "pass if 1=2;pass times 3;pass if done=3"), 4);
        s.due("in this text", Check.orders(x, "pass if done=0"), 1);

        s.says("latest: what the latest lend, bring in it told (-1: none),");
        value(s, lent(), "", "latest", -1);
        value(s, lent(), "pass;wait 0 for 0;", "latest", -1);
        value(s, lent(), "pass;pass;bring 1;", "latest", 2);
        value(s, lent(), "pass;pass;bring 1;pass;wait 0 for 0;", "latest", 2);
        value(s, lent(), "pass;pass;lend 1 to 0;", "latest", 2);
        value(s, lent(), "pass;pass;lend 1 to 0;bring 1;", "latest", 0);
        PeopleLent y = lent();
        Check.orders(y, "pass times 2;bring 1");
        value(s, y, "", "latest", -1);

        s.says("waiting: how many are WAITING,");
        value(s, lent(), "", "waiting", 2);
        value(s, Worlds.orderly(), "", "waiting", 0);
        value(s, lent(), "wait 0 for 0;", "waiting", 3);
        value(s, lent(), "lend 1 to 0;", "waiting", 1);

        s.says("with: the BOOK (-1: none, no such READER), worn, purse: -1 without such a one.");
        value(s, lent(), "", "with 1", 1);
        value(s, lent(), "", "with 0", -1);
        value(s, lent(), "", "with 3", -1);
        value(s, lent(), "", "with 5", -1);
        value(s, lent(), "", "worn 1", 2);
        value(s, lent(), "", "worn 0", 0);
        value(s, lent(), "", "worn 3", -1);
        value(s, lent(), "", "worn 5", -1);
        value(s, lent(), "", "purse 0", 100);
        value(s, lent(), "", "purse 2", 50);
        value(s, lent(), "", "purse 3", -1);
        value(s, lent(), "", "purse 7", -1);
        value(s, lent(), "pass;pass;bring 1;", "purse 1", 5);
        value(s, lent(), "pass;", "worn 1", 3);
        value(s, lent(), "lend 0 to 0;", "with 0", 0);
        PeopleLent full = Worlds.full();
        full.terms(0, 0);
        full.end(0);
        value(s, full, "", "with 3", 3);
        value(s, full, "", "worn 5", 0);
        value(s, full, "", "purse 7", 107);
    }

    private static PeopleLent weekBefore() {
        PeopleLent x = Worlds.rich();
        x.terms(0, 998);
        return x;
    }

    private static PeopleLent almostFull() {
        PeopleLent x = Worlds.full();
        x.undo();
        x.undo();
        return x;
    }

    private static void stopping(Sentences s) {
        s.says("One that can't be (a BROKEN SUM, as lend(), bring(), waits(), pass() are REFUSED) ends it: all is as "
            + "it was ahead of it.");
        s.ordersStop("bring 1/0", Worlds::rich, 0);
        s.ordersStop("pass;pass;bring 1000*1000*1000+1", Worlds::rich, 2);
        s.ordersStop("lend 1/0 to 2", Worlds::rich, 0);
        s.ordersStop("lend 1 to 1/0", Worlds::rich, 0);
        s.ordersStop("wait 1/0 for 0", Worlds::rich, 0);
        s.ordersStop("wait 2 for 1/0", Worlds::rich, 0);
        s.ordersStop("pass;lend 3 to 2", Worlds::rich, 1);
        s.ordersStop("pass;lend 1 to 3", Worlds::rich, 1);
        s.ordersStop("pass;lend 0-1 to 2", Worlds::rich, 1);
        s.ordersStop("pass;lend 0 to 1", Worlds::rich, 1);
        s.ordersStop("pass;lend 0 to 2", Worlds::rich, 1);
        s.ordersStop("pass;lend 2 to 2", Worlds::rich, 1);
        s.ordersStop("bring 0;bring 0", Worlds::rich, 1);
        s.ordersStop("bring 0 times 2", Worlds::rich, 0);
        s.ordersStop("bring 3", Worlds::rich, 0);
        s.ordersStop("bring 0-1", Worlds::rich, 0);
        s.ordersStop("wait 3 for 0", Worlds::rich, 0);
        s.ordersStop("wait 0 for 3", Worlds::rich, 0);
        s.ordersStop("wait 0 for 0", Worlds::rich, 0);
        s.ordersStop("wait 2 for 0;wait 2 for 0", Worlds::rich, 1);
        s.ordersStop("wait 5 for 0", Worlds::full, 0);
        s.ordersStop("bring 0;bring 1;bring 2;bring 3;wait 0 for 0", Worlds::full, 4);
        s.ordersStop("pass", Worlds::full, 0);
        s.ordersStop("pass times 2", OrderSentences::weekBefore, 0);
        s.ordersStop("lend 1 to 2;pass;bring 1;lend 1 to 1;wait 0 for 1;pass", OrderSentences::weekBefore, 5);
        s.ordersStop("bring 4;wait 0 for 4", OrderSentences::almostFull, 1);
        s.ordersStop("pass times 20;pass times 20;bring 2", Worlds::rich, 2);
        s.ordersStop(Check.many("pass;", 11) + "bring 2", Worlds::rich, 11);
    }
}
