import java.util.Random;

/** Random runs of calls, whose answers are held against those of Model. The same runs each time. */
public final class FuzzTest {
    private final Random random;
    private final PeopleLent x = new PeopleLent();
    private final Model m = new Model();
    private final StringBuilder told = new StringBuilder();
    private final int style;
    private int wrong = 0;

    private FuzzTest(long seed) {
        random = new Random(seed);
        style = random.nextInt(6);
    }

    public static void main(String[] args) {
        int runs = args.length > 0 ? Integer.parseInt(args[0]) : 600;
        int first = args.length > 1 ? Integer.parseInt(args[1]) : 1;
        int wrongRuns = 0;
        for (int seed = first; seed < first + runs && wrongRuns < 3; seed++) {
            FuzzTest run = new FuzzTest(seed);
            if (!run.goes()) {
                wrongRuns++;
                System.out.println("run with seed " + seed + ":\n" + run.told);
            }
        }
        System.out.println("FuzzTest: " + runs + " runs, " + wrongRuns + " wrong");
        if (wrongRuns != 0) {
            System.exit(1);
        }
    }

    private boolean goes() {
        int calls = style == 0 ? 0 : setUp();
        while (calls < 500 && wrong == 0) {
            calls += one();
        }
        return wrong == 0;
    }

    private void due(String call, long got, long want) {
        told.append(call).append(" answered ").append(got);
        if (got != want) {
            wrong++;
            told.append(", due is ").append(want);
        }
        told.append('\n');
    }

    private int any(int least, int most) {
        return least + random.nextInt(most - least + 1);
    }

    /** Mostly within the bounds, at times one beyond them or far away. */
    private int about(int least, int most) {
        switch (random.nextInt(25)) {
            case 0: return least - 1;
            case 1: return most + 1;
            case 2: return new int[] {Integer.MIN_VALUE, Integer.MAX_VALUE, -2, 100, -1000}[random.nextInt(5)];
            default: return any(least, most);
        }
    }

    /** Most runs start with books that are easily had, so that much can be lent. */
    private int setUp() {
        int books = any(1, 8);
        int readers = any(1, 6);
        for (int b = 0; b < books; b++) {
            addBook(any(1, style > 3 ? 3 : 9), bits() & random.nextInt(64), bits(), any(0, style > 2 ? 999 : 30));
        }
        for (int r = 0; r < readers; r++) {
            addReader(style > 4 ? bits() : random.nextInt(64) | random.nextInt(64), random.nextInt(9) / 8);
        }
        if (random.nextBoolean()) {
            int weeks = any(1, 4);
            due("terms(1, " + weeks + ")", x.terms(1, weeks), m.terms(1, weeks));
        }
        return books + readers;
    }

    private void addBook(int a, int b, int c, int d) {
        due("book(" + a + ", " + b + ", " + c + ", " + d + ")", x.book(a, b, c, d), m.book(a, b, c, d));
    }

    private void addReader(int a, int b) {
        due("reader(" + a + ", " + b + ")", x.reader(a, b), m.reader(a, b));
    }

    private int bits() {
        int bits = random.nextInt(64);
        return random.nextInt(3) == 0 ? bits : bits & random.nextInt(64);
    }

    private int aReader() {
        return random.nextInt(30) == 0 ? about(0, 5) : any(0, Math.max(0, m.now.readers.size() - 1));
    }

    private int aBook() {
        return random.nextInt(30) == 0 ? about(0, 7) : any(0, Math.max(0, m.now.books.size() - 1));
    }

    private int one() {
        int kind = random.nextInt(100);
        if (kind < 45) {
            change(kind);
        } else if (kind < 53) {
            text();
            return 12;
        } else {
            look(kind);
        }
        if (random.nextInt(4) == 0) {
            int what = about(0, 16);
            due("count(" + what + ")", x.count(what), m.count(what));
            due("status()", x.status(), m.status);
            due("fault()", x.fault(), m.fault);
            due("stopped()", x.stopped(), m.stopped);
            due("slips()", x.slips(), m.slips);
        }
        return 2;
    }

    private void change(int kind) {
        int a, b, c, d;
        switch (kind) {
            case 0: case 1: case 2:
                if (random.nextInt(m.now.books.size() > 2 ? 20 : 2) != 0) {
                    return;
                }
                a = about(1, 9);
                b = random.nextInt(20) == 0 ? about(0, 63) : bits();
                c = random.nextInt(20) == 0 ? about(0, 63) : bits();
                d = about(0, random.nextBoolean() ? 20 : 999);
                addBook(a, b, c, d);
                return;
            case 3: case 4: case 5:
                if (random.nextInt(m.now.readers.size() > 2 ? 20 : 2) != 0) {
                    return;
                }
                a = random.nextInt(20) == 0 ? about(0, 63) : bits();
                b = random.nextInt(6) == 0 ? about(0, 1) : 0;
                addReader(a, b);
                return;
            case 6:
                if (random.nextInt(3) != 0) {
                    return;
                }
                a = about(0, 3);
                b = about(0, new int[] {999, 20, 10, 9}[Math.floorMod(a, 4)]);
                if (a == 0 && random.nextBoolean()) {
                    b = random.nextBoolean() ? any(990, 999) : m.now.week + any(-3, 5);
                }
                due("terms(" + a + ", " + b + ")", x.terms(a, b), m.terms(a, b));
                return;
            case 7:
                a = about(-1, m.now.laws.size() - 1);
                due("force(" + a + ")", x.force(a), m.force(a));
                return;
            case 8:
                a = about(0, 1);
                due("image(" + a + ")", x.image(a), m.image(a));
                return;
            case 9:
                a = about(0, 1);
                due("back(" + a + ")", x.back(a), m.back(a));
                return;
            case 10: case 11: case 12: case 13:
                for (int times = any(1, 20); times > 0 && random.nextInt(kind == 10 ? 20 : 2) != 0; times--) {
                    due("undo()", x.undo(), m.undo());
                }
                return;
            case 14: case 15: case 16:
                a = about(0, 1000000);
                b = about(1, 60);
                due("years(" + a + ", " + b + ")", x.years(a, b), m.years(a, b));
                for (int k = -1; k < 9; k++) {
                    for (int what = -1; what < 5; what++) {
                        due("drawn(" + k + ", " + what + ")", x.drawn(k, what), m.drawn(k, what));
                    }
                }
                return;
            case 17: case 18: case 19: case 20: case 21: case 22: case 23: case 24:
                due("pass()", x.pass(), m.pass());
                return;
            case 25: case 26: case 27: case 28: case 29:
                a = aReader();
                due("bring(" + a + ")", x.bring(a), m.bring(a));
                return;
            case 30: case 31: case 32: case 33: case 34:
                a = aBook();
                b = aReader();
                if (style == 3) {
                    for (b = 0; b < 5; b++) {
                        due("waits(" + a + ", " + b + ")", x.waits(a, b), m.waits(a, b));
                    }
                }
                due("waits(" + a + ", " + b + ")", x.waits(a, b), m.waits(a, b));
                return;
            default:
                a = aReader();
                b = aBook();
                due("lend(" + a + ", " + b + ")", x.lend(a, b), m.lend(a, b));
        }
    }

    private void look(int kind) {
        int a = aReader();
        int b = aBook();
        int from = random.nextInt(20) == 0 ? about(0, 63) : bits() & bits();
        if (m.now.isReader(a) && random.nextBoolean()) {
            from = m.now.readers.get(a).traits & random.nextInt(64);
        }
        switch (kind % 12) {
            case 0:
                for (int what = -1; what < 6; what++) {
                    due("of(" + b + ", " + what + ")", x.of(b, what), m.of(b, what));
                }
                return;
            case 1:
                for (int what = -1; what < 7; what++) {
                    due("at(" + a + ", " + what + ")", x.at(a, what), m.at(a, what));
                }
                return;
            case 2: case 3:
                for (int what = -1; what < 7; what++) {
                    due("asks(" + b + ", " + a + ", " + what + ")", x.asks(b, a, what), m.asks(b, a, what));
                }
                return;
            case 4:
                for (int what = -1; what < 8; what++) {
                    due("served(" + what + ")", x.served(what), m.served(what));
                }
                return;
            case 5:
                due("turn(" + a + ")", x.turn(a), m.turn(a));
                return;
            case 6:
                int to = random.nextInt(20) == 0 ? about(0, 63) : bits();
                for (int i = -2; i < (random.nextBoolean() ? 0 : 9); i++) {
                    due("way(" + from + ", " + to + ", " + i + ")", x.way(from, to, i), m.way(from, to, i));
                }
                return;
            case 7:
                int many = m.sets(a, from, -1);
                due("sets(" + a + ", " + from + ", -1)", x.sets(a, from, -1), many);
                for (int i : new int[] {-2, 0, many / 2, many - 1, many}) {
                    due("sets(" + a + ", " + from + ", " + i + ")", x.sets(a, from, i), m.sets(a, from, i));
                }
                return;
            case 8:
                for (int what = -1; what < 3; what++) {
                    due("ask(" + a + ", " + from + ", " + what + ")", x.ask(a, from, what), m.ask(a, from, what));
                }
                due("last(" + a + ", " + from + ")", x.last(a, from), m.last(a, from));
                return;
            case 9:
                for (int i = -2; i < 9; i++) {
                    due("nest(" + i + ")", x.nest(i), m.nest(i));
                }
                return;
            case 10:
                for (int what = -1; what < 3; what++) {
                    due("all(" + what + ")", x.all(what), m.all(what));
                }
                return;
            default:
                int k = about(1, 20);
                int n = about(0, 99);
                due("whole(" + k + ", " + n + ")", x.whole(k, n), m.whole(k, n));
                for (int law = -2; law < 7; law++) {
                    due("owed(" + law + ")", x.owed(law), m.owed(law));
                }
        }
    }

    private void lay(String text) {
        int n = text.length();
        for (int from = 0; from < n; from += 20) {
            int[] four = new int[5];
            for (int i = 0; i < 20; i++) {
                int sign = from + i < n ? text.charAt(from + i) & 255 : any(0, 255);
                four[i / 4] = four[i / 4] << 8 | sign;
            }
            due("feed", x.feed(four[0], four[1], four[2], four[3], four[4]), m.feed(four));
        }
        int end = random.nextInt(40) == 0 ? about(0, 400) : n;
        due("end(" + end + ")", x.end(end), m.end(end));
    }

    private void text() {
        if (random.nextInt(6) == 0) {
            StringBuilder row = new StringBuilder();
            for (int i = any(0, 3); i > 0; i--) {
                row.append((char) about(1, 9)).append((char) about(0, 63)).append((char) about(0, 63));
                row.append((char) about(0, 99));
            }
            row.setLength(Math.max(0, row.length() - any(0, 5) / 3));
            lay(row.toString());
            due("row()", x.row(), m.row());
            due("slips()", x.slips(), m.slips);
            return;
        }
        boolean law = random.nextInt(3) == 0;
        String text = new FuzzTexts(random, law).text();
        told.append("tape: ").append(text).append('\n');
        lay(text);
        if (law) {
            int number = m.law();
            due("law()", x.law(), number);
            if (number >= 0 && random.nextInt(3) != 0) {
                due("force(" + number + ")", x.force(number), m.force(number));
            }
        } else {
            due("orders()", x.orders(), m.orders());
        }
        due("fault()", x.fault(), m.fault);
        due("stopped()", x.stopped(), m.stopped);
        due("count(5)", x.count(5), m.count(5));
    }
}
