import java.nio.file.Files;
import java.nio.file.Path;
import java.util.function.Supplier;

/**
 * Tests by the document's own words: says() opens one with the words that it is of, which must stand in the document
 * just once. At the end all words of the document's terms and promises must have been told by some test.
 */
final class Sentences {
    final Check c = new Check();
    private final String doc;
    private final boolean[] told;
    private String now = "";
    private int asked = 0;
    private int askedAhead = 0;

    Sentences(Path path) throws Exception {
        String text = Files.readString(path);
        int from = text.indexOf("## Terms");
        int to = text.indexOf("## Not promised");
        text = text.substring(Math.max(0, from), to < 0 ? text.length() : to);
        doc = plain(text.replaceAll("(?m)^(#.*|```.*)$", ""));
        told = new boolean[doc.length()];
    }

    private static String plain(String text) {
        return text.replaceAll("\\s+", " ").trim();
    }

    void says(String words) {
        close();
        now = plain(words);
        int at = doc.indexOf(now);
        c.due("the document says: " + now, at >= 0 && doc.indexOf(now, at + 1) < 0 ? 1 : 0, 1);
        for (int i = 0; at >= 0 && i < now.length(); i++) {
            told[at + i] = true;
        }
    }

    private void close() {
        if (!now.isEmpty()) {
            c.due("a test of: " + now, asked > askedAhead ? 1 : 0, 1);
        }
        askedAhead = asked;
    }

    void due(String call, long got, long want) {
        asked++;
        c.due("[" + now + "] " + call, got, want);
    }

    /** A refused call: the answer, and that nothing else is changed but what is told. */
    void refused(String call, Supplier<PeopleLent> world, Still.Deed deed, int why, Object... changes) {
        asked++;
        Still.refused(c, "[" + now + "] " + call, world, deed, why, changes);
    }

    /** A question without an answer, or one that must leave all as it is. */
    void none(String call, Supplier<PeopleLent> world, Still.Deed deed) {
        asked++;
        Still.asked(c, "[" + now + "] " + call, world, deed, -1);
    }

    private static int read(PeopleLent x, String text, boolean law) {
        x.end(0);
        Check.tape(x, text);
        return law ? x.law() : x.orders();
    }

    /** A text that can't be: where, and that nothing else is changed than that the tape is empty. */
    void lawFault(String text, int place) {
        asked++;
        Still.refusedBut(c, "[" + now + "] law: " + text, Worlds::rich, x -> x.end(0), x -> read(x, text, true), -6,
            "fault()", place);
    }

    void ordersFault(String text, int place) {
        asked++;
        Still.refusedBut(c, "[" + now + "] orders: " + text, Worlds::rich, x -> x.end(0), x -> read(x, text, false),
            -6, "fault()", place, "stopped()", -1);
    }

    /** Orders that can't be: which clause, and that all is as it was ahead of them. */
    void ordersStop(String text, Supplier<PeopleLent> world, int clause) {
        asked++;
        Still.refusedBut(c, "[" + now + "] orders: " + text, world, x -> x.end(0), x -> read(x, text, false), -3,
            "fault()", -1, "stopped()", clause);
    }

    /** A text that can be, in both languages where it is the same but for how a clause begins. */
    void lawReads(String text) {
        PeopleLent x = Worlds.rich();
        due("law: " + text, read(x, text, true), 2);
        due("its fault: " + text, x.fault(), -1);
        due("its tape: " + text, x.count(6), 0);
        due("its status: " + text, x.status(), 0);
    }

    void ordersRead(String text) {
        PeopleLent x = Worlds.rich();
        due("orders: " + text, read(x, text, false) == -6 ? 1 : 0, 0);
        due("its fault: " + text, x.fault(), -1);
        due("its tape: " + text, x.count(6), 0);
    }

    void finish(String name) {
        close();
        int from = -1;
        for (int i = 0; i <= doc.length(); i++) {
            boolean open = i < doc.length() && !told[i];
            if (open && from < 0) {
                from = i;
            }
            if (!open && from >= 0) {
                String words = doc.substring(from, i);
                c.due("no test of: " + words, words.matches(".*[A-Za-z0-9].*") ? 1 : 0, 0);
                from = -1;
            }
        }
        c.finish(name);
    }
}
