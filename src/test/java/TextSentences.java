/** Terms, II: what both languages have in common. */
final class TextSentences {
    private TextSentences() {
    }

    static void run(Sentences s) {
        tokens(s);
        clauses(s);
        grammar(s);
        limits(s);
        faults(s);
        broken(s);
        behind(s);
    }

    private static String many(String one, int times) {
        return Check.many(one, times);
    }

    /** A library in which what a law's clause tells can be asked: book 0 of length 4, reader 0. */
    static PeopleLent byLaw(String text) {
        PeopleLent x = new PeopleLent();
        x.book(4, 0, 0, 100);
        x.reader(0, 0);
        Check.law(x, text);
        x.force(0);
        return x;
    }

    private static void fines(Sentences s, String sum, int due) {
        PeopleLent x = byLaw("fines " + sum);
        s.due("law of fines " + sum, x.count(4), 1);
        s.due("fines " + sum, x.asks(0, 0, 0), due);
    }

    /** Whether a test is so (1), or else not so or broken: asked in both languages. */
    private static void so(Sentences s, String test, int due) {
        PeopleLent x = byLaw("bars if " + test);
        s.due("law of bars if " + test, x.count(4), 1);
        s.due("bars if " + test, x.asks(0, 0, 3), due);
        s.due("pass if " + test, Check.orders(x, "pass if " + test), due);
    }

    private static void tokens(Sentences s) {
        s.says("II. TEXTS are on a TAPE of at most 400 bytes.");
        s.lawReads("fines 1" + many(" ", 393));
        s.lawReads(many(" ", 393) + "fines 1");
        s.lawFault("fines 1" + many(" ", 392) + "?", 399);
        s.ordersRead(many(" ", 396) + "pass");
        s.ordersFault(many(" ", 395) + "pass?", 399);
        PeopleLent x = Worlds.full();
        s.due("400 bytes", x.count(6), 400);
        s.due("no more", x.feed(0, 0, 0, 0, 0), -1);

        s.says("TOKENS: longest rows of letters a .. z, of digits, single other bytes, any blanks (32) between.");
        s.lawReads("fines1");
        s.lawReads("  fines    1   ;  bars   ");
        s.lawReads("fines 1if 1=1;bars if(1=1)and not(2=1)or 3=1");
        s.lawReads("fines[[1]+2]*3-worn%2/7");
        s.ordersRead("pass times3if with0=1and purse7=1");
        s.lawFault("finesx 1", 0);
        s.lawFault("barsz", 0);
        s.lawFault("barsa", 0);
        s.lawFault("zbars", 0);
        s.lawFault("fines 1z", 7);
        s.lawFault("fines 10 0", 9);
        s.lawFault("fines 19 9", 9);
        s.lawFault("barsif 1=1", 0);
        s.lawFault("fi nes 1", 0);
        s.lawFault("fines 1 2", 8);
        s.lawFault("fines 12 3", 9);
        s.lawFault("Fines 1", 0);
        s.lawFault("fineS 1", 0);
        s.lawFault("fines 1 iF 1=1", 8);
        s.lawFault("fines`1", 5);
        s.lawFault("fines{1", 5);
        s.lawFault("fines:1", 5);
        s.lawFault("fines 1:", 7);
        s.lawFault("fines/1", 5);
        s.lawFault("bars if 1<=2", 10);
        s.lawFault("bars if 1==1", 10);
        for (int one : new int[] {0, 9, 10, 13, 31, 33, 127, 128, 160, 255}) {
            s.lawFault("fines" + (char) one + "1", 5);
            s.ordersFault("pass" + (char) one, 4);
        }
    }

    private static void clauses(Sentences s) {
        s.says("Of both languages: CLAUSE {\";\" CLAUSE}, 12 at most (FAULT at the 13th's first TOKEN).");
        s.lawReads("bars");
        s.ordersRead("pass");
        s.lawReads(many("bars;", 11) + "bars");
        s.ordersRead(many("pass;", 11) + "pass");
        s.lawFault(many("bars;", 12) + "bars", 60);
        s.ordersFault(many("pass;", 12) + "pass", 60);
        s.lawFault(many("bars;", 12) + "  bars", 62);
        s.lawFault(many("bars;", 12) + " fines ?", 61);
        s.lawFault(many("bars;", 12), 60);
        s.lawFault(many("bars;", 12) + "  ", 62);
        s.lawFault(many("bars;", 19), 60);
        s.lawFault("bars;", 5);
        s.lawFault(";bars", 0);
        s.lawFault("bars;;bars", 5);
        s.lawFault("bars bars", 5);
        s.lawFault("bars,bars", 4);
        s.ordersFault("pass;", 5);
        s.ordersFault(";pass", 0);
        s.ordersFault("pass;;pass", 5);
        s.ordersFault("pass pass", 5);
        PeopleLent twelve = byLaw(many("fines 1;", 11) + "fines 12");
        s.due("the twelfth", twelve.asks(0, 0, 0), 12);
        s.due("all twelve", Check.orders(twelve, many("pass;", 11) + "pass"), 12);
    }

    private static void grammar(Sentences s) {
        s.says("TEST: BOTH {\"or\" BOTH}. BOTH: PLAIN {\"and\" PLAIN}.");
        so(s, "1=1 or 1=2 and 1=2", 1);
        so(s, "1=2 and 1=2 or 1=1", 1);
        so(s, "1=2 or 1=2 or 1=1", 1);
        so(s, "1=2 or 1=2 or 1=2", 0);
        so(s, "1=1 and 1=1 and 1=1", 1);
        so(s, "1=1 and 1=1 and 1=2", 0);
        so(s, "1=2 and 1=1 or 1=2", 0);
        s.lawFault("bars if 1=1 or", 14);
        s.lawFault("bars if 1=1 and", 15);
        s.lawFault("bars if or 1=1", 8);
        s.lawFault("bars if and 1=1", 8);
        s.lawFault("bars if 1=1 or and 1=1", 15);

        s.says("PLAIN: \"not\" PLAIN | \"(\" TEST \")\" | SUM (\"<\" | \">\" | \"=\") SUM.");
        so(s, "not 1=2", 1);
        so(s, "not 1=1", 0);
        so(s, "not not 1=1", 1);
        so(s, "not 1=1 or 1=1", 1);
        so(s, "not 1=2 and 1=2", 0);
        so(s, "not (1=2 and 1=2)", 1);
        so(s, "not (1=1 or 1=1)", 0);
        so(s, "(1=1 or 1=1) and 1=2", 0);
        so(s, "((1=1))", 1);
        so(s, many("not ", 96) + "1=1", 1);
        so(s, many("not ", 95) + "1=1", 0);
        so(s, "1<2", 1);
        so(s, "2<2", 0);
        so(s, "3<2", 0);
        so(s, "2>1", 1);
        so(s, "2>2", 0);
        so(s, "2>3", 0);
        so(s, "2=2", 1);
        so(s, "2=3", 0);
        so(s, "3=2", 0);
        so(s, "0-1<0", 1);
        so(s, "1+2=3*1", 1);
        s.lawFault("bars if", 7);
        s.lawFault("bars if 1", 9);
        s.lawFault("bars if 1<", 10);
        s.lawFault("bars if <1", 8);
        s.lawFault("bars if not", 11);
        s.lawFault("bars if ()", 9);
        s.lawFault("bars if (", 9);
        s.lawFault("bars if (1=", 11);
        s.lawFault("bars if (1=;bars", 11);
        s.lawFault("bars if (;bars", 9);
        s.lawFault("bars if not (not (1", 19);
        s.lawFault("bars if (1)<2", 10);
        s.lawFault("bars if (1<2", 12);
        s.lawFault("bars if (1<2]", 12);
        s.lawFault("bars if [1<2]", 10);
        s.lawFault("bars if 1<2)", 11);
        s.lawFault("bars if 1<2<3", 11);
        s.lawFault("bars if 1+not 1=1", 10);

        s.says("SUM: TERM {(\"+\" | \"-\") TERM}. TERM: PART {(\"*\" | \"/\" | \"%\") PART}.");
        fines(s, "2+3*4", 14);
        fines(s, "2*3+4", 10);
        fines(s, "20-5-3", 12);
        fines(s, "20-5+3", 18);
        fines(s, "60/6/2", 5);
        fines(s, "60/6*2", 20);
        fines(s, "7%4*2", 6);
        fines(s, "2*7%4", 2);
        s.lawFault("fines +1", 6);
        s.lawFault("fines -1", 6);
        s.lawFault("fines 1+", 8);
        s.lawFault("fines 1*", 8);
        s.lawFault("fines 1+*2", 8);
        s.lawFault("fines 1*-2", 8);
        s.lawFault("fines 1--2", 8);

        s.says("PART: NUMBER (to 1,000) | \"[\" SUM \"]\" | a word, as told.");
        fines(s, "0", 0);
        fines(s, "1000-950", 50);
        s.lawReads("fines 1000");
        s.lawFault("fines 1001", 6);
        s.lawFault("fines 9999", 6);
        s.lawFault("fines 4294967297", 6);
        s.lawFault("fines 18446744073709551617", 6);
        s.lawFault("fines 1+1001", 8);
        s.ordersFault("bring 1001", 6);
        s.ordersRead("bring 1000");
        fines(s, "[2+3]*4", 20);
        fines(s, "[[[7]]]", 7);
        fines(s, "20-[5-3]", 18);
        fines(s, "length", 4);
        s.lawFault("fines []", 7);
        s.lawFault("fines [", 7);
        s.lawFault("fines [;fines 1", 7);
        s.lawFault("fines [1+", 9);
        s.lawFault("fines [1+;fines 1", 9);
        s.lawFault("fines [[1]*", 11);
        s.lawFault("fines [1", 8);
        s.lawFault("fines [1)", 8);
        s.lawFault("fines 1]", 7);
        s.lawFault("fines (1)", 6);
        s.lawFault("fines lengths", 6);
        s.lawFault("fines fines", 6);
        s.lawFault("fines if", 6);
    }

    private static void limits(Sentences s) {
        s.says("50 PARTS that are NUMBERS and words (FAULT at the 51st),");
        s.lawReads("fines " + many("1+", 49) + "1");
        s.lawFault("fines " + many("1+", 50) + "1", 106);
        s.lawFault("fines " + many("1+", 50) + "worn", 106);
        s.lawFault("fines " + many("1+", 50) + "[1]", 107);
        s.lawFault("fines " + many("1+", 50) + "?", 106);
        s.lawReads("fines " + many("[1]+", 49) + "[1]");
        s.lawReads("fines " + many("1+", 47) + "1 if 1=1");
        s.lawFault("fines " + many("1+", 48) + "1 if 1=1", 109);
        s.lawReads(many("fines 1;", 11) + "fines " + many("1+", 38) + "1");
        s.lawFault(many("fines 1;", 11) + "fines " + many("1+", 39) + "1", 172);
        s.ordersRead("bring " + many("1+", 49) + "1");
        s.ordersFault("bring " + many("1+", 50) + "1", 106);
        PeopleLent x = byLaw("fines " + many("1+", 49) + "1");
        s.due("fifty ones", x.asks(0, 0, 0), 50);
        String deep = many("1+[", 7) + many("1+", 42) + "1" + many("]", 7);
        s.due("fifty ones in brackets", byLaw("fines " + deep).asks(0, 0, 0), 50);

        s.says("8 brackets of both kinds within one another (FAULT at the 9th) at most.");
        s.lawReads("fines " + many("[", 8) + "1" + many("]", 8));
        s.lawFault("fines " + many("[", 9) + "1" + many("]", 9), 14);
        s.lawReads("bars if " + many("(", 8) + "1=1" + many(")", 8));
        s.lawFault("bars if " + many("(", 9) + "1=1" + many(")", 9), 16);
        s.lawReads("bars if ((((([[[1]]]=1)))))");
        s.lawFault("bars if ((((([[[[1]]]]=1)))))", 16);
        s.lawReads("bars if ((((((([1]=[1])))))))");
        s.lawFault("bars if ((((((([1]=[[1]])))))))", 20);
        s.lawReads("bars if " + many("not (", 8) + "1=1" + many(")", 8));
        s.lawFault("bars if " + many("not (", 9) + "1=1" + many(")", 9), 52);
        s.lawReads("fines " + many("[", 8) + "1" + many("]", 8) + "+" + many("[", 8) + "1" + many("]", 8));
        s.lawReads("bars if " + many("(1=1)or ", 20) + many("(", 8) + "1=1" + many(")", 8));
        s.ordersRead("bring " + many("[", 8) + "1" + many("]", 8));
        s.ordersFault("bring " + many("[", 9) + "1" + many("]", 9), 14);
        s.due("eight", byLaw("fines " + many("[1+", 8) + "1" + many("]", 8)).asks(0, 0, 0), 9);
    }

    private static void faults(Sentences s) {
        s.says("FAULT: the first TOKEN that can't go on there (the end's: the TEXT's length).");
        s.lawFault("fines 1 fines ?", 8);
        s.lawFault("fines ? ?", 6);
        s.lawFault("  ?", 2);
        s.lawFault("fines", 5);
        s.lawFault("fines   ", 8);
        s.lawFault("fines 1 ;", 9);
        s.lawFault("fines 1 ; ", 10);
        s.lawFault("fines 1" + many("?", 393), 7);
        s.lawFault("bars if 1=" + many(" ", 390), 400);
        s.ordersFault("lend", 4);
        s.ordersFault("lend ", 5);
        s.ordersFault("lend 1 to " + many(" ", 390), 400);
        s.ordersFault(many("9", 400), 0);
        s.lawFault(many("x", 400), 0);
        s.lawFault(many("?", 400), 0);
        s.lawFault(many(" ", 397) + "bar", 397);
        s.ordersFault(many(" ", 397) + "pas", 397);
        s.lawFault("bars if " + many("(", 392), 16);
    }

    private static void broken(Sentences s) {
        s.says("Beyond 1,000,000,000 either way, or divided by 0 (/ cut towards 0, % what is left then), "
            + "a SUM, a TEST is BROKEN");
        String most = "1000*1000*1000";
        so(s, most + "=" + most, 1);
        so(s, most + ">0", 1);
        so(s, most + "+1>0", 0);
        so(s, "not " + most + "+1>0", 0);
        so(s, "1+" + most + ">0", 0);
        so(s, "0-" + most + "<0", 1);
        so(s, "0-" + most + "-1<0", 0);
        so(s, "not 0-" + most + "-1>0", 0);
        so(s, most + "*1000>0", 0);
        so(s, "[0-" + most + "]*1000<0", 0);
        so(s, "0<" + most + "+1", 0);
        so(s, most + "*1000*1000*1000*1000>0", 0);
        so(s, most + "*0=0", 1);
        so(s, "[" + most + "+1]*0=0", 0);
        so(s, most + "+" + most + "-" + most + ">0", 0);
        fines(s, most, 99);
        fines(s, most + "+1", 2);
        fines(s, "0-" + most, 0);
        fines(s, "0-" + most + "-1", 2);
        fines(s, "1/0", 2);
        fines(s, "0/0", 2);
        fines(s, "1%0", 2);
        fines(s, "0%0", 2);
        fines(s, "1/[1-1]", 2);
        fines(s, "50+0*[1/0]", 2);
        fines(s, "0/5", 0);
        fines(s, "7/2", 3);
        fines(s, "20+[0-7]/2", 17);
        fines(s, "20+7/[0-2]", 17);
        fines(s, "[0-7]/[0-2]", 3);
        fines(s, "7%4", 3);
        fines(s, "20+[0-7]%4", 17);
        fines(s, "20+7%[0-4]", 23);
        fines(s, "20+[0-7]%[0-4]", 17);
        fines(s, "1000%7", 6);
        so(s, "1/0=1", 0);
        so(s, "not 1/0=1", 0);
        so(s, "1=1%0", 0);
        so(s, "not 1=1%0", 0);
        so(s, "not (not 1/0=1)", 0);
    }

    private static void behind(Sentences s) {
        s.says("(\"or\", \"and\" ask what stands behind only if it can still matter).");
        so(s, "1=1 or 1/0=1", 1);
        so(s, "1=2 or 1/0=1", 0);
        so(s, "not (1=2 or 1/0=1)", 0);
        so(s, "1/0=1 or 1=1", 0);
        so(s, "not (1/0=1 or 1=1)", 0);
        so(s, "not (1=2 and 1/0=1)", 1);
        so(s, "not (1=1 and 1/0=1)", 0);
        so(s, "1=1 and 1/0=1", 0);
        so(s, "not (1/0=1 and 1=2)", 0);
        so(s, "1=2 or 1=1 or 1/0=1", 1);
        so(s, "not (1=1 and 1=2 and 1/0=1)", 1);
        so(s, "1=2 and 1/0=1 or 1=1", 1);
        so(s, "1=1 or 1=1 and 1/0=1", 1);
        so(s, "1=2 and 1=1+1/0 or not 1=2", 1);
        so(s, "1=2 and 1=1+1/0 or not 1=1", 0);
    }
}
