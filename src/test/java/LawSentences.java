/** Terms, II: laws. */
final class LawSentences {
    private LawSentences() {
    }

    static void run(Sentences s) {
        laws(s);
        words(s);
        holds(s);
        told(s);
    }

    private static void laws(Sentences s) {
        s.says("LAWS, 6 at most; one is in FORCE (NONE at first: no CLAUSE):");
        PeopleLent x = new PeopleLent();
        x.book(4, 0, 0, 0);
        x.reader(0, 0);
        s.due("at first", x.count(12), -1);
        int[] without = {2, 1, 4, 0};
        for (int what = 0; what < 4; what++) {
            s.due("no clause", x.asks(0, 0, what), without[what]);
        }
        for (int law = 0; law < 6; law++) {
            s.due("law", Check.law(x, "fines " + (10 + law)), law);
        }
        s.due("a seventh", Check.law(x, "fines 9"), -5);
        s.due("how many", x.count(4), 6);
        s.due("none in force yet", x.asks(0, 0, 0), 2);
        for (int law = 0; law < 6; law++) {
            s.due("force", x.force(law), law - 1);
            s.due("fines", x.asks(0, 0, 0), 10 + law);
            s.due("in force", x.count(12), law);
        }

        s.says("CLAUSE: ((\"fines\" | \"wears\" | \"takes\") SUM | \"bars\") [\"if\" TEST].");
        s.lawReads("fines 1");
        s.lawReads("wears 1");
        s.lawReads("takes 1");
        s.lawReads("bars");
        s.lawReads("fines 1 if 1=1;wears 1 if 1=1;takes 1 if 1=1;bars if 1=1");
        s.lawFault("fines", 5);
        s.lawFault("wears;", 5);
        s.lawFault("takes if 1=1", 6);
        s.lawFault("bars 1", 5);
        s.lawFault("fines 1 if 1=1 if 1=1", 15);
        s.lawFault("fines 1 times 2", 8);
        s.lawFault("fines 1=1", 7);
        s.lawFault("if 1=1", 0);
        for (String order : new String[] {"lend 0 to 0", "bring 0", "wait 0 for 0", "pass"}) {
            s.lawFault(order, 0);
        }
    }

    private static PeopleLent library(String text) {
        PeopleLent x = Worlds.lawful();
        Check.law(x, text);
        x.force(0);
        return x;
    }

    private static void words(Sentences s) {
        s.says("Words: \"book\" | \"length\" | \"purse\" | \"reader\" | \"traits\" | \"worn\" | \"kept\" | \"week\" | "
            + "\"mood\".");
        String[] word = {"book", "length", "purse", "reader", "traits", "worn", "kept", "week", "mood"};
        int[] due = {1, 9, 55, 1, 18, 2, 2, 6, 8};
        int[] other = {0, 4, 83, 0, 7, 0, -1, 6, 8};
        for (int i = 0; i < word.length; i++) {
            PeopleLent x = library("fines 10+" + word[i]);
            s.due(word[i] + " of 1 and 1", x.asks(1, 1, 0), 10 + due[i]);
            s.due(word[i] + " of 0 and 0", x.asks(0, 0, 0), 10 + other[i]);
        }
        for (String no : new String[] {"done", "latest", "waiting", "with 0", "weeks", "rate", "books", "x"}) {
            s.lawFault("fines " + no, 6);
        }
        s.lawFault("fines worn 0", 11);
        s.lawFault("fines purse 0", 12);

        s.says("All are asked of a BOOK and a READER (traits: the bits as a number; kept: WEEK less SINCE, if it is "
            + "WITH the BOOK, else -1).");
        PeopleLent x = library("fines 50+kept");
        s.due("with the book", x.asks(1, 1, 0), 52);
        s.due("with another book", x.asks(0, 1, 0), 49);
        s.due("at the desk", x.asks(0, 0, 0), 49);
        s.due("the book has another one", x.asks(1, 0, 0), 49);
        x.terms(0, 1);
        s.due("the week was set back", x.asks(1, 1, 0), 47);
        PeopleLent now = library("fines 50+kept");
        now.lend(0, 0);
        s.due("since this week", now.asks(0, 0, 0), 50);
        s.due("all six bits", traits(63).asks(0, 0, 0), 63);
        s.due("no bit", traits(0).asks(0, 0, 0), 0);
    }

    private static PeopleLent traits(int traits) {
        PeopleLent x = new PeopleLent();
        x.book(1, 0, 0, 0);
        x.reader(traits, 0);
        Check.law(x, "fines traits");
        x.force(0);
        return x;
    }

    private static void tells(Sentences s, String text, int what, int due) {
        PeopleLent x = TextSentences.byLaw(text);
        s.due("law of " + text, x.count(4), 1);
        s.due(text + ": asks(0, 0, " + what + ")", x.asks(0, 0, what), due);
    }

    private static void holds(Sentences s) {
        s.says("A CLAUSE HOLDS, if its \"if\" (if it has one) is so, and neither that nor its SUM is BROKEN.");
        tells(s, "fines 7", 0, 7);
        tells(s, "fines 7 if 1=1", 0, 7);
        tells(s, "fines 7 if 1=2", 0, 2);
        tells(s, "fines 7 if 1/0=1", 0, 2);
        tells(s, "fines 7 if not 1/0=1", 0, 2);
        tells(s, "fines 7/0", 0, 2);
        tells(s, "fines 7/0 if 1=1", 0, 2);
        tells(s, "fines 5;fines 7/0", 0, 5);
        tells(s, "fines 5;fines 7 if 1/0=1", 0, 5);
        tells(s, "wears 7/0", 1, 1);
        tells(s, "takes 7/0", 2, 4);
        tells(s, "bars if 1=1", 3, 1);
        tells(s, "bars if 1=2", 3, 0);
        tells(s, "bars if 1/0=1", 3, 0);
    }

    private static void told(Sentences s) {
        s.says("A BOOK FINES for each late week what the last \"fines\" that HOLDS tells, 0 .. 99 (else the nearest), "
            + "2 without;");
        tells(s, "fines 0", 0, 0);
        tells(s, "fines 1", 0, 1);
        tells(s, "fines 99", 0, 99);
        tells(s, "fines 100", 0, 99);
        tells(s, "fines 1000*1000", 0, 99);
        tells(s, "fines 0-1", 0, 0);
        tells(s, "fines 0-1000*1000", 0, 0);
        tells(s, "bars", 0, 2);
        tells(s, "fines 3;fines 4;fines 5", 0, 5);
        tells(s, "fines 3;fines 4;fines 5 if 1=2", 0, 4);
        tells(s, "fines 3;wears 4;bars;takes 9", 0, 3);
        tells(s, "fines 100;fines 3", 0, 3);

        s.says("a READER with it is WORN by 0 .. 20 a WEEK, 1 without;");
        tells(s, "wears 0", 1, 0);
        tells(s, "wears 20", 1, 20);
        tells(s, "wears 21", 1, 20);
        tells(s, "wears 0-1", 1, 0);
        tells(s, "bars", 1, 1);
        tells(s, "wears 5;wears 6;wears 7 if 1=2", 1, 6);

        s.says("it TAKES one 1 .. 99 weeks, LENGTH without;");
        tells(s, "takes 1", 2, 1);
        tells(s, "takes 0", 2, 1);
        tells(s, "takes 0-1", 2, 1);
        tells(s, "takes 99", 2, 99);
        tells(s, "takes 100", 2, 99);
        tells(s, "bars", 2, 4);
        tells(s, "takes 5;takes 6;takes 7 if 1=2", 2, 6);

        s.says("a READER is BARRED from it, if \"bars\" HOLDS.");
        tells(s, "bars", 3, 1);
        tells(s, "fines 1", 3, 0);
        tells(s, "bars if 1=2", 3, 0);
        tells(s, "bars;bars if 1=2", 3, 1);
        tells(s, "bars if 1=2;bars", 3, 1);
        tells(s, "bars;bars if 1/0=1", 3, 1);

        s.says("A READER FITS a BOOK, if its TRAITS have all that it WANTS.");
        PeopleLent x = new PeopleLent();
        int[] wants = {0, 5, 63, 1, 32};
        for (int one : wants) {
            x.book(1, one, 0, 0);
        }
        int[] traits = {0, 5, 63, 4, 7, 31};
        for (int one : traits) {
            x.reader(one, 0);
        }
        int[][] due = {{1, 1, 1, 1, 1, 1}, {0, 1, 1, 0, 1, 1}, {0, 0, 1, 0, 0, 0}, {0, 1, 1, 0, 1, 1},
            {0, 0, 1, 0, 0, 0}};
        for (int b = 0; b < 5; b++) {
            for (int r = 0; r < 6; r++) {
                s.due("wants " + wants[b] + " of " + traits[r], x.asks(b, r, 4), due[b][r]);
            }
        }
    }
}
