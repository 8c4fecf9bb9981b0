import java.util.LinkedHashMap;
import java.util.Map;
import java.util.function.Consumer;
import java.util.function.Supplier;

/**
 * Holds an object that had a call against one that had it not: all that can be asked of both, what they undo, what
 * their images, their laws and their tapes hold. Each question is put to a pair of new objects, so that none has more
 * than the document's 512 calls.
 */
final class Still {
    interface Deed {
        long on(PeopleLent x);
    }

    private interface Probe {
        void look(PeopleLent x, Map<String, Long> seen);
    }

    private static final int BOOKS = 8;
    private static final int READERS = 6;

    private Still() {
    }

    /** A refused call: nothing is other than ahead of it, but status(), how many were refused, and what is told. */
    static void refused(Check c, String name, Supplier<PeopleLent> world, Deed deed, int why, Object... changes) {
        refusedBut(c, name, world, x -> { }, deed, why, changes);
    }

    /** A refused call that leaves all as another thing would have left it. */
    static void refusedBut(Check c, String name, Supplier<PeopleLent> world, Consumer<PeopleLent> alike, Deed deed,
            int why, Object... changes) {
        Map<String, Long> told = changes(changes);
        String counted = "count(" + (new int[] {0, 7, 8, 9, 0, 10, 11}[-why]) + ")";
        PeopleLent x = world.get();
        int slot = Integer.parseInt(counted.substring(6, counted.length() - 1));
        told.put(counted, (long) x.count(slot) + 1);
        told.put("status()", (long) why);
        compare(c, name, world, alike, deed, why, told);
    }

    /** A question: nothing is other than ahead of it. */
    static void asked(Check c, String name, Supplier<PeopleLent> world, Deed deed, long answer) {
        compare(c, name, world, x -> { }, deed, answer, new LinkedHashMap<>());
    }

    private static Map<String, Long> changes(Object... pairs) {
        Map<String, Long> told = new LinkedHashMap<>();
        for (int i = 0; i + 1 < pairs.length; i += 2) {
            told.put((String) pairs[i], ((Number) pairs[i + 1]).longValue());
        }
        return told;
    }

    private static void compare(Check c, String name, Supplier<PeopleLent> world, Consumer<PeopleLent> alike,
            Deed deed, long answer, Map<String, Long> told) {
        Probe[] probes = {Still::all, Still::asks, Still::papers, Still::undos, (x, seen) -> image(x, 0, seen),
            (x, seen) -> image(x, 1, seen), Still::laws, Still::row, Still::orders};
        for (int i = 0; i < probes.length; i++) {
            PeopleLent with = world.get();
            c.due(name, deed.on(with), answer);
            PeopleLent without = world.get();
            alike.accept(without);
            Map<String, Long> got = new LinkedHashMap<>();
            Map<String, Long> due = new LinkedHashMap<>();
            probes[i].look(with, got);
            probes[i].look(without, due);
            if (i == 0) {
                due.putAll(told);
            }
            for (Map.Entry<String, Long> one : due.entrySet()) {
                c.due(name + ", behind it " + one.getKey(), got.get(one.getKey()), one.getValue());
            }
        }
    }

    private static void all(PeopleLent x, Map<String, Long> seen) {
        seen.put("status()", (long) x.status());
        for (int what = 0; what < 17; what++) {
            seen.put("count(" + what + ")", (long) x.count(what));
        }
        seen.put("slips()", (long) x.slips());
        seen.put("fault()", (long) x.fault());
        seen.put("stopped()", (long) x.stopped());
        shelf(x, seen, "");
        for (int k = 0; k < BOOKS; k++) {
            for (int what = 0; what < 4; what++) {
                seen.put("drawn(" + k + ", " + what + ")", (long) x.drawn(k, what));
            }
        }
    }

    private static void shelf(PeopleLent x, Map<String, Long> seen, String ahead) {
        for (int b = 0; b < BOOKS; b++) {
            for (int what = 0; what < 5; what++) {
                seen.put(ahead + "of(" + b + ", " + what + ")", (long) x.of(b, what));
            }
        }
        for (int r = 0; r < READERS; r++) {
            for (int what = 0; what < 6; what++) {
                seen.put(ahead + "at(" + r + ", " + what + ")", (long) x.at(r, what));
            }
            seen.put(ahead + "turn(" + r + ")", (long) x.turn(r));
        }
    }

    private static void asks(PeopleLent x, Map<String, Long> seen) {
        for (int b = 0; b < BOOKS; b++) {
            for (int r = 0; r < READERS; r++) {
                for (int what = 0; what < 6; what++) {
                    seen.put("asks(" + b + ", " + r + ", " + what + ")", (long) x.asks(b, r, what));
                }
            }
        }
    }

    private static void papers(PeopleLent x, Map<String, Long> seen) {
        for (int i = -1; i < BOOKS; i++) {
            seen.put("way(0, 7, " + i + ")", (long) x.way(0, 7, i));
            seen.put("nest(" + i + ")", (long) x.nest(i));
            seen.put("served(" + i + ")", (long) x.served(i));
            seen.put("owed(" + i + ")", (long) x.owed(i));
        }
        for (int r = 0; r < READERS; r++) {
            for (int i = -1; i < 4; i++) {
                seen.put("sets(" + r + ", 0, " + i + ")", (long) x.sets(r, 0, i));
            }
            seen.put("ask(" + r + ", 0, 0)", (long) x.ask(r, 0, 0));
            seen.put("ask(" + r + ", 0, 1)", (long) x.ask(r, 0, 1));
            seen.put("last(" + r + ", 0)", (long) x.last(r, 0));
        }
        seen.put("all(0)", (long) x.all(0));
        seen.put("all(1)", (long) x.all(1));
        seen.put("whole(2, 15)", x.whole(2, 15));
    }

    private static void undos(PeopleLent x, Map<String, Long> seen) {
        for (int i = 0; i < 17; i++) {
            String ahead = "undo " + i + ": ";
            seen.put(ahead + "undo()", (long) x.undo());
            seen.put(ahead + "count(3)", (long) x.count(3));
            seen.put(ahead + "count(13)", (long) x.count(13));
            for (int r = 0; r < READERS; r++) {
                seen.put(ahead + "at(" + r + ", 2)", (long) x.at(r, 2));
                seen.put(ahead + "at(" + r + ", 3)", (long) x.at(r, 3));
            }
        }
        shelf(x, seen, "undone: ");
    }

    private static void image(PeopleLent x, int k, Map<String, Long> seen) {
        String ahead = "back(" + k + "): ";
        seen.put(ahead, (long) x.back(k));
        int[] kept = {0, 1, 2, 3, 4, 5, 12, 13, 14, 15, 16};
        for (int what : kept) {
            seen.put(ahead + "count(" + what + ")", (long) x.count(what));
        }
        shelf(x, seen, ahead);
        laws(x, seen);
    }

    private static void laws(PeopleLent x, Map<String, Long> seen) {
        for (int law = -1; law < 7; law++) {
            seen.put("force(" + law + ")", (long) x.force(law));
            seen.put("owed(" + law + ")", (long) x.owed(law));
            for (int what = 0; what < 4; what++) {
                seen.put("law " + law + ": asks(0, 0, " + what + ")", (long) x.asks(0, 0, what));
            }
        }
    }

    private static void row(PeopleLent x, Map<String, Long> seen) {
        seen.put("row()", (long) x.row());
        seen.put("row: slips()", (long) x.slips());
        shelf(x, seen, "row: ");
    }

    private static void orders(PeopleLent x, Map<String, Long> seen) {
        seen.put("orders()", (long) x.orders());
        seen.put("orders: fault()", (long) x.fault());
        seen.put("orders: stopped()", (long) x.stopped());
        seen.put("orders: count(13)", (long) x.count(13));
        shelf(x, seen, "orders: ");
    }
}
