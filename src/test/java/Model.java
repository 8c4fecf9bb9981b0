import java.util.ArrayList;
import java.util.List;

/**
 * The document once more, as slowly and as plainly as can be: by lists, copies of all, and trying everything.
 * FuzzTest holds the program's answers against this one's.
 */
final class Model {
    static final class Refused extends Exception {
        private static final long serialVersionUID = 1;

        final int why;

        Refused(int why) {
            super(null, null, false, false);
            this.why = why;
        }
    }

    static final class Broken extends Exception {
        private static final long serialVersionUID = 1;

        Broken() {
            super(null, null, false, false);
        }
    }

    static final class Book {
        int length, wants, gives, purse;

        Book(int length, int wants, int gives, int purse) {
            this.length = length;
            this.wants = wants;
            this.gives = gives;
            this.purse = purse;
        }

        Book copy() {
            return new Book(length, wants, gives, purse);
        }
    }

    static final class Reader {
        int traits, rare, worn, book = -1, since = -1, read;

        Reader copy() {
            Reader r = new Reader();
            r.traits = traits;
            r.rare = rare;
            r.worn = worn;
            r.book = book;
            r.since = since;
            r.read = read;
            return r;
        }
    }

    /** All that an image keeps. */
    static final class World {
        List<Book> books = new ArrayList<>();
        List<Reader> readers = new ArrayList<>();
        List<List<Integer>> waiting = new ArrayList<>();
        List<ModelText> laws = new ArrayList<>();
        int force = -1;
        int week = 0, weeks = 3, rate = 1, mood = 0;

        World copy() {
            World w = new World();
            for (Book b : books) {
                w.books.add(b.copy());
            }
            for (Reader r : readers) {
                w.readers.add(r.copy());
            }
            w.waiting.addAll(waiting);
            w.laws.addAll(laws);
            w.force = force;
            w.week = week;
            w.weeks = weeks;
            w.rate = rate;
            w.mood = mood;
            return w;
        }

        boolean isBook(int b) {
            return b >= 0 && b < books.size();
        }

        boolean isReader(int r) {
            return r >= 0 && r < readers.size();
        }

        int holder(int b) {
            for (int r = 0; r < readers.size(); r++) {
                if (readers.get(r).book == b) {
                    return r;
                }
            }
            return -1;
        }

        int lawWord(String word, int b, int r) {
            Book book = books.get(b);
            Reader reader = readers.get(r);
            switch (word) {
                case "book": return b;
                case "length": return book.length;
                case "purse": return book.purse;
                case "reader": return r;
                case "traits": return reader.traits;
                case "worn": return reader.worn;
                case "kept": return reader.book == b ? week - reader.since : -1;
                case "week": return week;
                case "mood": return mood;
                default: throw new IllegalStateException(word);
            }
        }

        /** Null, if no clause of that verb holds. */
        Long told(String verb, int law, int b, int r) {
            Long told = null;
            if (law == -1) {
                return null;
            }
            for (ModelText.Clause c : laws.get(law).clauses) {
                if (!c.verb.equals(verb)) {
                    continue;
                }
                try {
                    ModelText.Words words = (w, n) -> lawWord(w, b, r);
                    if (c.test != null && !c.test.so(words)) {
                        continue;
                    }
                    told = c.first == null ? Long.valueOf(1) : Long.valueOf(c.first.value(words));
                } catch (Broken e) {
                    continue;
                }
            }
            return told;
        }

        static int near(Long told, int least, int most, int without) {
            return told == null ? without : (int) Math.max(least, Math.min(most, told));
        }

        int fines(int law, int b, int r) {
            return near(told("fines", law, b, r), 0, 99, 2);
        }

        int wears(int b, int r) {
            return near(told("wears", force, b, r), 0, 20, 1);
        }

        int takes(int b, int r) {
            return near(told("takes", force, b, r), 1, 99, books.get(b).length);
        }

        boolean barred(int b, int r) {
            return told("bars", force, b, r) != null;
        }

        boolean fits(int b, int traits) {
            int wants = books.get(b).wants;
            return (wants & traits) == wants;
        }

        int pays(int law, int r) {
            Reader reader = readers.get(r);
            int paid = 0;
            int left = books.get(reader.book).purse;
            int fine = fines(law, reader.book, r);
            for (int w = weeks; w < week - reader.since; w++) {
                int now = Math.min(left, fine);
                left -= now;
                paid += now;
            }
            return paid;
        }

        int leaves(int r) {
            Reader reader = readers.get(r);
            Book book = books.get(reader.book);
            int takes = takes(reader.book, r);
            int paid = pays(force, r);
            if (week - reader.since >= takes) {
                reader.read |= 1 << reader.book;
                reader.traits |= book.gives;
            }
            book.purse -= paid;
            reader.book = -1;
            reader.since = -1;
            return paid;
        }

        /** Changes this world, even if it is refused: called on a copy. */
        int lend(int r, int b) throws Refused {
            if (!isReader(r) || !isBook(b)) {
                throw new Refused(-2);
            }
            Reader reader = readers.get(r);
            if (holder(b) != -1) {
                throw new Refused(-3);
            }
            int paid = reader.book == -1 ? 0 : leaves(r);
            if (!fits(b, reader.traits) || barred(b, r) || reader.rare == 1 || reader.worn == 99) {
                throw new Refused(-3);
            }
            reader.book = b;
            reader.since = week;
            waiting.remove(List.of(b, r));
            return paid;
        }

        int bring(int r) throws Refused {
            if (!isReader(r)) {
                throw new Refused(-2);
            }
            if (readers.get(r).book == -1) {
                throw new Refused(-3);
            }
            return leaves(r);
        }

        int waits(int b, int r) throws Refused {
            if (!isReader(r) || !isBook(b)) {
                throw new Refused(-2);
            }
            if (waiting.contains(List.of(b, r)) || readers.get(r).book == b) {
                throw new Refused(-3);
            }
            if (waiting.size() == 12) {
                throw new Refused(-5);
            }
            waiting.add(List.of(b, r));
            return waiting.size();
        }

        int pass() throws Refused {
            if (week == 999) {
                throw new Refused(-3);
            }
            World ahead = copy();
            for (int r = 0; r < readers.size(); r++) {
                Reader reader = readers.get(r);
                if (reader.book != -1) {
                    reader.worn = Math.min(99, reader.worn + ahead.wears(reader.book, r));
                }
            }
            return ++week;
        }

        int act(int kind, int a, int b) throws Refused {
            switch (kind) {
                case 0: return lend(a, b);
                case 1: return bring(a);
                case 2: return waits(a, b);
                default: return pass();
            }
        }

        boolean canHave(int b, int r) {
            if (holder(b) != -1 || readers.get(r).book != -1) {
                return false;
            }
            try {
                copy().lend(r, b);
                return true;
            } catch (Refused e) {
                return false;
            }
        }
    }

    static final class Undo {
        final int kind;
        final World world;

        Undo(int kind, World world) {
            this.kind = kind;
            this.world = world;
        }
    }

    World now = new World();
    List<Undo> undos = new ArrayList<>();
    World[] images = new World[2];
    World paper = null;
    StringBuilder tape = new StringBuilder();
    int slips = 0, fault = -1, stopped = -1, status = 0;
    int[] refused = new int[7];

    int no(int why) {
        status = why;
        refused[-why]++;
        return why;
    }

    int yes(int answer) {
        status = 0;
        return answer;
    }

    static boolean bookCanBe(int length, int wants, int gives, int purse) {
        return length >= 1 && length <= 9 && wants >= 0 && wants <= 63 && gives >= 0 && gives <= 63
            && purse >= 0 && purse <= 999;
    }

    int book(int length, int wants, int gives, int purse) {
        if (!bookCanBe(length, wants, gives, purse)) {
            return no(-1);
        }
        if (now.books.size() == 8) {
            return no(-5);
        }
        now.books.add(new Book(length, wants, gives, purse));
        undos.clear();
        return yes(now.books.size() - 1);
    }

    int of(int book, int what) {
        if (!now.isBook(book) || what < 0 || what > 4) {
            return -1;
        }
        Book b = now.books.get(book);
        return new int[] {b.length, b.wants, b.gives, b.purse, now.holder(book)}[what];
    }

    int reader(int traits, int rare) {
        if (traits < 0 || traits > 63 || (rare != 0 && rare != 1)) {
            return no(-1);
        }
        if (now.readers.size() == 6) {
            return no(-5);
        }
        Reader r = new Reader();
        r.traits = traits;
        r.rare = rare;
        now.readers.add(r);
        undos.clear();
        return yes(now.readers.size() - 1);
    }

    int at(int reader, int what) {
        if (!now.isReader(reader) || what < 0 || what > 5) {
            return -1;
        }
        Reader r = now.readers.get(reader);
        return new int[] {r.traits, r.rare, r.worn, r.book, r.since, r.read}[what];
    }

    int asks(int b, int r, int what) {
        if (!now.isBook(b) || !now.isReader(r)) {
            return -1;
        }
        switch (what) {
            case 0: return now.fines(now.force, b, r);
            case 1: return now.wears(b, r);
            case 2: return now.takes(b, r);
            case 3: return now.barred(b, r) ? 1 : 0;
            case 4: return now.fits(b, now.readers.get(r).traits) ? 1 : 0;
            case 5: return now.canHave(b, r) ? 1 : 0;
            default: return -1;
        }
    }

    int terms(int what, int value) {
        int was;
        switch (what) {
            case 0:
                if (value < 0 || value > 999) {
                    return no(-1);
                }
                was = now.week;
                now.week = value;
                break;
            case 1:
                if (value < 1 || value > 20) {
                    return no(-1);
                }
                was = now.weeks;
                now.weeks = value;
                break;
            case 2:
                if (value < 0 || value > 10) {
                    return no(-1);
                }
                was = now.rate;
                now.rate = value;
                break;
            case 3:
                if (value < 0 || value > 9) {
                    return no(-1);
                }
                was = now.mood;
                now.mood = value;
                break;
            default:
                return no(-1);
        }
        undos.clear();
        return yes(was);
    }

    int feed(int... fours) {
        if (tape.length() > 380) {
            return -1;
        }
        for (int four : fours) {
            for (byte one : java.nio.ByteBuffer.allocate(4).putInt(four).array()) {
                tape.append((char) (one & 255));
            }
        }
        return tape.length();
    }

    int end(int n) {
        if (n < 0 || n > tape.length()) {
            return -1;
        }
        tape.setLength(n);
        return n;
    }

    int row() {
        if (tape.length() == 0) {
            return no(-6);
        }
        String bytes = tape.toString();
        tape.setLength(0);
        int came = 0;
        slips = 0;
        while (!bytes.isEmpty()) {
            String four = bytes.substring(0, Math.min(4, bytes.length()));
            bytes = bytes.substring(four.length());
            if (four.length() == 4 && now.books.size() < 8
                && bookCanBe(four.charAt(0), four.charAt(1), four.charAt(2), 10 * four.charAt(3))) {
                now.books.add(new Book(four.charAt(0), four.charAt(1), four.charAt(2), 10 * four.charAt(3)));
                came++;
            } else {
                slips++;
            }
        }
        undos.clear();
        return yes(came);
    }

    int law() {
        String text = tape.toString();
        tape.setLength(0);
        if (now.laws.size() == 6) {
            return no(-5);
        }
        ModelText read = new ModelText(text, true);
        fault = read.fault;
        if (fault != -1) {
            return no(-6);
        }
        now.laws.add(read);
        return yes(now.laws.size() - 1);
    }

    int orders() {
        String text = tape.toString();
        tape.setLength(0);
        stopped = -1;
        ModelText read = new ModelText(text, false);
        fault = read.fault;
        if (fault != -1) {
            return no(-6);
        }
        World world = now.copy();
        List<Undo> news = new ArrayList<>();
        int[] doneAndLatest = {0, -1};
        for (int c = 0; c < read.clauses.size(); c++) {
            for (int time = 0; time < read.clauses.get(c).times; time++) {
                world = runOne(read.clauses.get(c), world, news, doneAndLatest);
                if (world == null) {
                    stopped = c;
                    return no(-3);
                }
            }
        }
        now = world;
        undos.addAll(news);
        while (undos.size() > 16) {
            undos.remove(0);
        }
        return yes(doneAndLatest[0]);
    }

    private World runOne(ModelText.Clause c, World world, List<Undo> news, int[] doneAndLatest) {
        ModelText.Words words = (w, n) -> {
            switch (w) {
                case "week": return world.week;
                case "done": return doneAndLatest[0];
                case "latest": return doneAndLatest[1];
                case "waiting": return world.waiting.size();
                case "with": return world.isReader(n) ? world.readers.get(n).book : -1;
                case "worn": return world.isReader(n) ? world.readers.get(n).worn : -1;
                case "purse": return world.isBook(n) ? world.books.get(n).purse : -1;
                default: throw new IllegalStateException(w);
            }
        };
        try {
            if (c.test != null && !c.test.so(words)) {
                return world;
            }
        } catch (Broken e) {
            return world;
        }
        World next = world.copy();
        int kind = List.of("lend", "bring", "wait", "pass").indexOf(c.verb);
        try {
            int a = c.first == null ? 0 : c.first.value(words);
            int b = c.second == null ? 0 : c.second.value(words);
            int told = next.act(kind, a, b);
            doneAndLatest[0]++;
            if (kind < 2) {
                doneAndLatest[1] = told;
            }
        } catch (Broken | Refused e) {
            return null;
        }
        news.add(new Undo(kind, world));
        return next;
    }

    int force(int law) {
        if (law < -1 || law >= now.laws.size()) {
            return no(-2);
        }
        int was = now.force;
        now.force = law;
        return yes(was);
    }

    private int act(int kind, int a, int b) {
        World next = now.copy();
        try {
            int told = next.act(kind, a, b);
            undos.add(new Undo(kind, now));
            if (undos.size() > 16) {
                undos.remove(0);
            }
            now = next;
            return yes(told);
        } catch (Refused e) {
            return no(e.why);
        }
    }

    int lend(int r, int b) {
        return act(0, r, b);
    }

    int bring(int r) {
        return act(1, r, 0);
    }

    int waits(int b, int r) {
        return act(2, b, r);
    }

    int pass() {
        return act(3, 0, 0);
    }

    int undo() {
        if (undos.isEmpty()) {
            return no(-3);
        }
        Undo latest = undos.remove(undos.size() - 1);
        World world = latest.world.copy();
        world.laws = now.laws;
        world.force = now.force;
        now = world;
        return yes(latest.kind);
    }

    private List<Integer> bestRow;
    private int bestServed;

    private void tryRows(List<Integer> row, int served) {
        int r = row.size();
        if (r == now.readers.size()) {
            if (served > bestServed) {
                bestServed = served;
                bestRow = new ArrayList<>(row);
            }
            return;
        }
        for (int b = 0; b <= now.books.size(); b++) {
            boolean none = b == now.books.size();
            if (!none && (row.contains(b) || !now.canHave(b, r))) {
                continue;
            }
            row.add(none ? 100 : b);
            tryRows(row, none ? served : served + 1);
            row.remove(row.size() - 1);
        }
    }

    int served(int what) {
        bestServed = -1;
        tryRows(new ArrayList<>(), 0);
        if (what == 0) {
            return bestServed;
        }
        return what >= 1 && what <= bestRow.size() ? bestRow.get(what - 1) : -1;
    }

    int turn(int reader) {
        for (List<Integer> two : now.waiting) {
            if (two.get(1) == reader && now.isReader(reader) && now.canHave(two.get(0), reader)) {
                return two.get(0);
            }
        }
        return -1;
    }

    private List<Integer> bestWay;
    private int bestWeeks;

    private void tryWays(List<Integer> way, int weeks, int traits, int to) {
        if ((traits & to) == to) {
            boolean better = bestWay == null || weeks < bestWeeks
                || weeks == bestWeeks && way.size() < bestWay.size();
            if (better) {
                bestWay = new ArrayList<>(way);
                bestWeeks = weeks;
            }
        }
        for (int b = 0; b < now.books.size(); b++) {
            if (!way.contains(b) && now.fits(b, traits)) {
                way.add(b);
                tryWays(way, weeks + now.books.get(b).length, traits | now.books.get(b).gives, to);
                way.remove(way.size() - 1);
            }
        }
    }

    int way(int from, int to, int i) {
        if (from < 0 || from > 63 || to < 0 || to > 63) {
            return -1;
        }
        bestWay = null;
        tryWays(new ArrayList<>(), 0, from, to);
        if (bestWay == null) {
            return -1;
        }
        if (i == -1) {
            return bestWeeks;
        }
        return i >= 0 && i < bestWay.size() ? bestWay.get(i) : -1;
    }

    private java.util.TreeSet<Integer> sets;
    private int lasts;

    private void tryOrders(int set, int last, int traits, int to) {
        if (traits == to) {
            sets.add(set);
            lasts |= last;
        }
        for (int b = 0; b < now.books.size(); b++) {
            if ((set & 1 << b) == 0 && now.fits(b, traits)) {
                tryOrders(set | 1 << b, 1 << b, traits | now.books.get(b).gives, to);
            }
        }
    }

    private boolean findSets(int reader, int from) {
        if (!now.isReader(reader) || from < 0 || from > 63) {
            return false;
        }
        sets = new java.util.TreeSet<>();
        lasts = 0;
        tryOrders(0, 0, from, now.readers.get(reader).traits);
        return true;
    }

    int sets(int reader, int from, int i) {
        if (!findSets(reader, from)) {
            return -1;
        }
        if (i == -1) {
            return sets.size();
        }
        return i >= 0 && i < sets.size() ? new ArrayList<>(sets).get(i) : -1;
    }

    int ask(int reader, int from, int what) {
        if (!findSets(reader, from) || what < 0 || what > 1 || sets.isEmpty() || now.books.isEmpty()) {
            return -1;
        }
        int best = -1;
        int least = 1000;
        for (int b = now.books.size() - 1; b >= 0; b--) {
            int with = 0;
            int without = 0;
            for (int set : sets) {
                if ((set >> b & 1) == 1) {
                    with++;
                } else {
                    without++;
                }
            }
            int more = Math.max(with, without);
            if (more <= least) {
                least = more;
                best = b;
            }
        }
        return what == 0 ? best : least;
    }

    int last(int reader, int from) {
        return findSets(reader, from) ? lasts : -1;
    }

    private List<Integer> bestNest;

    private void tryNests(List<Integer> nest) {
        if (nest.size() > bestNest.size()) {
            bestNest = new ArrayList<>(nest);
        }
        for (int b = 0; b < now.books.size(); b++) {
            int wants = now.books.get(b).wants;
            if (!nest.isEmpty()) {
                int ahead = now.books.get(nest.get(nest.size() - 1)).wants;
                if ((wants & ahead) != ahead || wants == ahead) {
                    continue;
                }
            }
            nest.add(b);
            tryNests(nest);
            nest.remove(nest.size() - 1);
        }
    }

    int nest(int i) {
        bestNest = new ArrayList<>();
        tryNests(new ArrayList<>());
        if (i == -1) {
            return bestNest.size();
        }
        return i >= 0 && i < bestNest.size() ? bestNest.get(i) : -1;
    }

    int all(int what) {
        if (what != 0 && what != 1) {
            return -1;
        }
        int best = -1;
        for (int set = 0; set < 1 << now.readers.size(); set++) {
            boolean allHad = true;
            for (int b = 0; b < now.books.size(); b++) {
                boolean some = false;
                boolean had = false;
                for (int r = 0; r < now.readers.size(); r++) {
                    boolean fits = now.fits(b, now.readers.get(r).traits);
                    some |= fits;
                    had |= fits && (set >> r & 1) == 1;
                }
                allHad &= had || !some;
            }
            if (allHad && (best == -1 || Integer.bitCount(set) < Integer.bitCount(best))) {
                best = set;
            }
        }
        return what == 0 ? Integer.bitCount(best) : best;
    }

    int owed(int law) {
        if (law < -1 || law >= now.laws.size()) {
            return -1;
        }
        int sum = 0;
        for (int r = 0; r < now.readers.size(); r++) {
            if (now.readers.get(r).book != -1) {
                sum += now.pays(law, r);
            }
        }
        return sum;
    }

    long whole(int k, int n) {
        if (k < 1 || k > 20 || n < 0 || n > 99) {
            return -1;
        }
        long[] chance = new long[n + 2];
        chance[0] = 1000000000000L;
        for (int w = 0; w < n; w++) {
            long[] next = new long[n + 2];
            for (int j = 0; j <= w; j++) {
                next[j] += chance[j] * (10 - now.rate) / 10;
                next[j + 1] += chance[j] * now.rate / 10;
            }
            chance = next;
        }
        long sum = 0;
        for (int j = 0; j < k && j < chance.length; j++) {
            sum += chance[j];
        }
        return sum;
    }

    int years(int seed, int n) {
        if (seed < 0 || seed > 1000000 || n < 1 || n > 60) {
            return no(-1);
        }
        if (now.books.isEmpty() || now.readers.isEmpty()) {
            return no(-3);
        }
        long[] s = {seed};
        java.util.function.IntUnaryOperator draw = m -> {
            s[0] = (s[0] * 1103 + 12345) % 1000003;
            return (int) (s[0] % m);
        };
        World w = now.copy();
        int paid = 0;
        for (int i = 0; i < n; i++) {
            if (w.week == 999) {
                break;
            }
            int r = draw.applyAsInt(w.readers.size());
            int b = draw.applyAsInt(w.books.size());
            int chance = draw.applyAsInt(3);
            World next = w.copy();
            try {
                boolean brought = chance == 0 && w.readers.get(r).book != -1;
                paid += brought ? next.bring(r) : next.lend(r, b);
                w = next;
            } catch (Refused e) {
                next = w;
            }
            try {
                w.pass();
            } catch (Refused e) {
                throw new IllegalStateException(e);
            }
        }
        paper = w;
        return yes(paid);
    }

    int drawn(int k, int what) {
        if (paper == null) {
            return -1;
        }
        if (what == 3) {
            return paper.isBook(k) ? paper.books.get(k).purse : -1;
        }
        if (!paper.isReader(k)) {
            return -1;
        }
        Reader r = paper.readers.get(k);
        return what == 0 ? r.traits : what == 1 ? r.worn : what == 2 ? r.book : -1;
    }

    int image(int k) {
        if (k != 0 && k != 1) {
            return no(-1);
        }
        images[k] = now.copy();
        return yes(0);
    }

    int back(int k) {
        if (k != 0 && k != 1) {
            return no(-1);
        }
        if (images[k] == null) {
            return no(-2);
        }
        now = images[k].copy();
        undos.clear();
        return yes(0);
    }

    int count(int what) {
        int with = 0;
        for (Reader r : now.readers) {
            with += r.book == -1 ? 0 : 1;
        }
        int[] counts = {now.books.size(), now.readers.size(), with, now.waiting.size(), now.laws.size(),
            undos.size(), tape.length(), refused[1], refused[2], refused[3], refused[5], refused[6],
            now.force, now.week, now.weeks, now.rate, now.mood};
        return what >= 0 && what < counts.length ? counts[what] : -1;
    }
}
