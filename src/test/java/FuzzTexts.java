import java.util.Random;

/** Random texts of both languages, most of them well formed. */
final class FuzzTexts {
    private final Random random;
    private final boolean law;
    private final StringBuilder out = new StringBuilder();

    FuzzTexts(Random random, boolean law) {
        this.random = random;
        this.law = law;
    }

    String text() {
        int clauses = random.nextInt(12) == 0 ? 10 + random.nextInt(5) : 1 + random.nextInt(5);
        int depth = random.nextInt(4);
        if (random.nextInt(15) == 0) {
            wide();
        } else if (random.nextInt(15) == 0) {
            deep();
        } else {
            for (int i = 0; i < clauses; i++) {
                if (i > 0) {
                    out.append(";");
                    blank();
                }
                clause(clauses > 8 ? 0 : depth);
            }
        }
        String text = out.toString();
        if (random.nextInt(4) == 0) {
            text = spoilt(text);
        }
        return text.length() > 400 ? text.substring(0, 400) : text;
    }

    private String spoilt(String text) {
        int at = random.nextInt(text.length() + 1);
        String sign = pick(" ", ";", "(", ")", "[", "]", "1", "a", "A", "<", "if", " not ", "+", "\0", "\u00ff", "\t",
            " and 1<2", " 1001", "0", " with 6", " times 3");
        if (random.nextBoolean() && at < text.length()) {
            return text.substring(0, at) + text.substring(at + 1);
        }
        if (random.nextInt(3) == 0) {
            return text.substring(0, at);
        }
        return text.substring(0, at) + sign + text.substring(at);
    }

    /** Near the 50 parts that there may be. */
    private void wide() {
        out.append(law ? "fines " : "bring ");
        int parts = 47 + random.nextInt(6);
        for (int i = 0; i < parts; i++) {
            out.append(i == 0 ? "" : pick("+", "-"));
            if (random.nextInt(4) == 0) {
                out.append(law ? "mood" : "week");
            } else {
                out.append(random.nextInt(3));
            }
        }
        if (random.nextBoolean()) {
            out.append(law ? " if 1=1" : " times 2 if with 0<9");
        }
    }

    /** Near the 8 brackets that there may be within one another. */
    private void deep() {
        out.append(law ? "bars if " : "pass if ");
        int round = random.nextInt(10);
        int square = 6 + random.nextInt(5) - round;
        for (int i = 0; i < round; i++) {
            out.append(random.nextInt(4) == 0 ? " not(" : "(");
        }
        for (int i = 0; i < square; i++) {
            out.append("[");
        }
        out.append("1");
        for (int i = 0; i < square; i++) {
            out.append("]");
        }
        out.append("<2");
        for (int i = 0; i < round; i++) {
            out.append(")");
        }
    }

    private String pick(String... ones) {
        return ones[random.nextInt(ones.length)];
    }

    private void blank() {
        for (int i = random.nextInt(8); i > 5; i--) {
            out.append(' ');
        }
    }

    private void word(String word) {
        if (out.length() > 0 && Character.isLetterOrDigit(out.charAt(out.length() - 1))) {
            out.append(' ');
        }
        out.append(word);
        blank();
    }

    private void clause(int depth) {
        if (law) {
            String verb = pick("fines", "wears", "takes", "bars");
            word(verb);
            if (!verb.equals("bars")) {
                sum(depth);
            }
        } else {
            order(depth);
            if (random.nextInt(4) == 0) {
                word("times");
                word("" + (random.nextInt(15) == 0 ? random.nextInt(25) : 1 + random.nextInt(4)));
            }
        }
        int odds = law && out.indexOf("bars") >= 0 ? 8 : 3;
        if (random.nextInt(odds) != 0 || random.nextBoolean()) {
            word("if");
            test(depth);
        }
    }

    private void order(int depth) {
        String verb = pick("lend", "bring", "wait", "pass", "pass");
        word(verb);
        if (verb.equals("pass")) {
            return;
        }
        small(depth);
        if (!verb.equals("bring")) {
            word(verb.equals("lend") ? "to" : "for");
            small(depth);
        }
        if (verb.equals("bring") && random.nextBoolean()) {
            String one = "" + random.nextInt(4);
            out.setLength(out.lastIndexOf("bring"));
            word("bring");
            word(one);
            word("if");
            word("with");
            word(one);
            word(">");
            word("[0-1]");
            if (random.nextBoolean()) {
                word("and");
                test(0);
            }
            word(";");
            word("pass");
        }
    }

    /** A sum that is mostly the number of something. */
    private void small(int depth) {
        if (random.nextInt(6) == 0) {
            sum(depth);
        } else {
            word("" + random.nextInt(4));
        }
    }

    private void test(int depth) {
        plain(depth);
        for (int i = random.nextInt(5); i > 2; i--) {
            word(pick("or", "and"));
            plain(depth);
        }
    }

    private void plain(int depth) {
        while (random.nextInt(5) == 0) {
            word("not");
        }
        if (depth > 0 && random.nextInt(4) == 0) {
            word("(");
            test(depth - 1);
            word(")");
            return;
        }
        sum(depth - 1);
        word(pick("<", ">", "="));
        sum(depth - 1);
    }

    private void sum(int depth) {
        part(depth);
        for (int i = random.nextInt(5); i > 2; i--) {
            word(pick("+", "-", "*", "/", "%", "*", "*"));
            part(depth);
        }
    }

    private void part(int depth) {
        if (depth > 0 && random.nextInt(4) == 0) {
            word("[");
            sum(depth - 1);
            word("]");
        } else if (random.nextInt(5) < 2) {
            number();
        } else if (law) {
            word(pick("book", "length", "purse", "reader", "traits", "worn", "kept", "week", "mood"));
        } else {
            String word = pick("week", "done", "latest", "waiting", "with", "worn", "purse");
            word(word);
            if (word.equals("with") || word.equals("worn")) {
                word("" + random.nextInt(random.nextInt(10) == 0 ? 7 : 6));
            }
            if (word.equals("purse")) {
                word("" + random.nextInt(random.nextInt(10) == 0 ? 9 : 8));
            }
        }
    }

    private void number() {
        int kind = random.nextInt(12);
        String number = "" + (kind == 0 ? 1000 : kind == 1 ? random.nextInt(1003) : random.nextInt(9));
        word(random.nextInt(20) == 0 ? "00" + number : number);
    }
}
