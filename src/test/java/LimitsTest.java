import java.lang.reflect.InvocationTargetException;
import java.lang.reflect.Method;
import java.util.ArrayList;
import java.util.Comparator;
import java.util.List;
import java.util.Random;

/** Any calls with any arguments: none throws, and what stands behind them is within the document's limits. */
public final class LimitsTest {
    private static final Check c = new Check();
    private static final int[] EDGES = {Integer.MIN_VALUE, -1000, -2, -1, 0, 0, 0, 1, 1, 1, 2, 2, 3, 4, 5, 6, 7, 8, 9, 10,
        20, 60, 61, 63, 64, 99, 100, 399, 400, 401, 999, 1000, 1000000, 1000001, Integer.MAX_VALUE};
    private static final String[] TEXTS = {"pass times 20", "lend 0 to 0", "lend 1 to 1 if with 1=0-1", "bring 0",
        "wait 0 for 1;wait 1 for 0", "fines worn*9;wears 20", "bars if kept>1", "takes [1+mood]*week", "fines 1/week",
        "lend with 0+1 to done;pass", "?", "", " ", "fines [[[[[[[[[1", "bars if not not", "pass;bring 0;pass"};

    private final Random random;
    private final PeopleLent x = new PeopleLent();

    private LimitsTest(long seed) {
        random = new Random(seed);
    }

    public static void main(String[] args) throws Exception {
        List<Method> calls = new ArrayList<>();
        for (Method method : PeopleLent.class.getDeclaredMethods()) {
            if (java.lang.reflect.Modifier.isPublic(method.getModifiers())) {
                calls.add(method);
            }
        }
        calls.sort(Comparator.comparing(Method::getName));
        for (long seed = 1; seed <= 1500; seed++) {
            new LimitsTest(seed).run(calls, seed);
        }
        c.finish("LimitsTest");
    }

    private void run(List<Method> calls, long seed) throws Exception {
        int books = random.nextInt(9);
        int readers = random.nextInt(7);
        for (int b = 0; b < books; b++) {
            x.book(1 + random.nextInt(3), random.nextInt(2), random.nextInt(64), random.nextInt(1000));
        }
        for (int r = 0; r < readers; r++) {
            x.reader(random.nextInt(64), random.nextInt(5) / 4);
        }
        for (int n = 0; n < 300; n++) {
            if (random.nextInt(25) == 0) {
                x.end(0);
                Check.tape(x, TEXTS[random.nextInt(TEXTS.length)]);
            }
            call(calls.get(random.nextInt(calls.size())), seed);
        }
        limits("run " + seed);
    }

    private void call(Method method, long seed) throws Exception {
        Object[] with = new Object[method.getParameterCount()];
        for (int i = 0; i < with.length; i++) {
            with[i] = random.nextInt(20) == 0 ? random.nextInt() : EDGES[random.nextInt(EDGES.length)];
        }
        try {
            method.invoke(x, with);
        } catch (InvocationTargetException e) {
            c.due("run " + seed + ": " + method.getName() + java.util.Arrays.toString(with) + " threw "
                + e.getCause(), 1, 0);
        }
    }

    private void within(String name, long got, long least, long most) {
        c.due(name + " is " + got, got >= least && got <= most ? 1 : 0, 1);
    }

    private void limits(String run) {
        int[] most = {8, 6, 6, 12, 6, 16, 400, 512, 512, 512, 512, 512, x.count(4) - 1, 999, 20, 10, 9};
        for (int what = 0; what < most.length; what++) {
            within(run + ": count(" + what + ")", x.count(what), what == 12 ? -1 : what == 14 ? 1 : 0, most[what]);
        }
        int with = 0;
        for (int b = 0; b < x.count(0); b++) {
            int[] least = {1, 0, 0, 0, -1};
            int[] beyond = {9, 63, 63, 999, x.count(1) - 1};
            for (int what = 0; what < 5; what++) {
                within(run + ": of(" + b + ", " + what + ")", x.of(b, what), least[what], beyond[what]);
            }
            int reader = x.of(b, 4);
            if (reader >= 0) {
                with++;
                c.due(run + ": the reader with book " + b, x.at(reader, 3), b);
                within(run + ": since", x.at(reader, 4), 0, 999);
            }
        }
        c.due(run + ": no other one is with a book", x.count(2), with);
        for (int r = 0; r < x.count(1); r++) {
            int[] least = {0, 0, 0, -1, -1, 0};
            int[] beyond = {63, 1, 99, x.count(0) - 1, 999, (1 << x.count(0)) - 1};
            for (int what = 0; what < 6; what++) {
                within(run + ": at(" + r + ", " + what + ")", x.at(r, what), least[what], beyond[what]);
            }
            if (x.at(r, 1) == 1) {
                c.due(run + ": a rare one is at the desk", x.at(r, 3), -1);
            }
        }
        within(run + ": status()", x.status(), -6, 0);
        c.due(run + ": no such status", x.status() == -4 ? 1 : 0, 0);
        within(run + ": fault()", x.fault(), -1, 400);
        within(run + ": stopped()", x.stopped(), -1, 11);
        within(run + ": slips()", x.slips(), 0, 100);
    }
}
