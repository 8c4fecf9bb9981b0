import java.util.ArrayList;
import java.util.List;

/** A text of either language as a tree, for Model. */
final class ModelText {
    interface Words {
        int of(String word, int n);
    }

    interface Sum {
        int value(Words words) throws Model.Broken;
    }

    interface Test {
        boolean so(Words words) throws Model.Broken;
    }

    static final class Clause {
        String verb;
        Sum first, second;
        Test test;
        int times = 1;
    }

    private static final class Fault extends RuntimeException {
        private static final long serialVersionUID = 1;

        Fault() {
            super(null, null, false, false);
        }
    }

    final List<Clause> clauses = new ArrayList<>();
    int fault = -1;
    private final List<String> tokens = new ArrayList<>();
    private final List<Integer> places = new ArrayList<>();
    private final boolean law;
    private int next = 0, parts = 0, open = 0;

    ModelText(String text, boolean law) {
        this.law = law;
        java.util.regex.Matcher m =
            java.util.regex.Pattern.compile("[a-z]+|[0-9]+|[^ ]", java.util.regex.Pattern.DOTALL).matcher(text);
        while (m.find()) {
            tokens.add(m.group());
            places.add(m.start());
        }
        tokens.add("");
        places.add(text.length());
        try {
            clauses.add(clause());
            while (is(";")) {
                take(";");
                if (clauses.size() == 12) {
                    throw new Fault();
                }
                clauses.add(clause());
            }
            take("");
        } catch (Fault e) {
            fault = places.get(next);
        }
    }

    private boolean is(String... ones) {
        return List.of(ones).contains(tokens.get(next));
    }

    private String take(String... ones) {
        if (!is(ones)) {
            throw new Fault();
        }
        String token = tokens.get(next);
        if (!token.isEmpty()) {
            next++;
        }
        return token;
    }

    private int number(int least, int most) {
        String token = tokens.get(next);
        if (!token.matches("[0-9]+")) {
            throw new Fault();
        }
        java.math.BigInteger n = new java.math.BigInteger(token);
        if (n.compareTo(java.math.BigInteger.valueOf(least)) < 0
            || n.compareTo(java.math.BigInteger.valueOf(most)) > 0) {
            throw new Fault();
        }
        next++;
        return n.intValue();
    }

    private Clause clause() {
        Clause c = new Clause();
        if (law) {
            c.verb = take("fines", "wears", "takes", "bars");
            if (!c.verb.equals("bars")) {
                c.first = sum();
            }
        } else {
            c.verb = take("lend", "bring", "wait", "pass");
            if (!c.verb.equals("pass")) {
                c.first = sum();
            }
            if (c.verb.equals("lend")) {
                take("to");
                c.second = sum();
            }
            if (c.verb.equals("wait")) {
                take("for");
                c.second = sum();
            }
            if (is("times")) {
                take("times");
                c.times = number(1, 20);
            }
        }
        if (is("if")) {
            take("if");
            c.test = test();
        }
        return c;
    }

    private Test test() {
        Test left = both();
        while (is("or")) {
            take("or");
            Test a = left;
            Test b = both();
            left = w -> a.so(w) || b.so(w);
        }
        return left;
    }

    private Test both() {
        Test left = plain();
        while (is("and")) {
            take("and");
            Test a = left;
            Test b = plain();
            left = w -> a.so(w) && b.so(w);
        }
        return left;
    }

    private void openOne(String bracket) {
        if (open == 8) {
            throw new Fault();
        }
        take(bracket);
        open++;
    }

    private Test plain() {
        if (is("not")) {
            take("not");
            Test a = plain();
            return w -> !a.so(w);
        }
        if (is("(")) {
            openOne("(");
            Test a = test();
            take(")");
            open--;
            return a;
        }
        Sum a = sum();
        String sign = take("<", ">", "=");
        Sum b = sum();
        return w -> {
            int x = a.value(w);
            int y = b.value(w);
            return sign.equals("<") ? x < y : sign.equals(">") ? x > y : x == y;
        };
    }

    private static int bounded(long value) throws Model.Broken {
        if (Math.abs(value) > 1000000000L) {
            throw new Model.Broken();
        }
        return (int) value;
    }

    private Sum sum() {
        Sum left = term();
        while (is("+", "-")) {
            Sum a = left;
            boolean plus = take("+", "-").equals("+");
            Sum b = term();
            left = w -> {
                long x = a.value(w);
                long y = b.value(w);
                return bounded(plus ? x + y : x - y);
            };
        }
        return left;
    }

    private Sum term() {
        Sum left = part();
        while (is("*", "/", "%")) {
            Sum a = left;
            String sign = take("*", "/", "%");
            Sum b = part();
            left = w -> {
                long x = a.value(w);
                long y = b.value(w);
                if (sign.equals("*")) {
                    return bounded(x * y);
                }
                if (y == 0) {
                    throw new Model.Broken();
                }
                return bounded(sign.equals("/") ? x / y : x - x / y * y);
            };
        }
        return left;
    }

    private Sum part() {
        if (is("[")) {
            openOne("[");
            Sum a = sum();
            take("]");
            open--;
            return a;
        }
        parts++;
        if (parts > 50) {
            throw new Fault();
        }
        if (tokens.get(next).matches("[0-9]+")) {
            int n = number(0, 1000);
            return w -> n;
        }
        if (law) {
            String word = take("book", "length", "purse", "reader", "traits", "worn", "kept", "week", "mood");
            return w -> w.of(word, -1);
        }
        String word = take("week", "done", "latest", "waiting", "with", "worn", "purse");
        int n = word.equals("with") || word.equals("worn") ? number(0, 5)
            : word.equals("purse") ? number(0, 7) : -1;
        return w -> w.of(word, n);
    }
}
