/** Counts and prints the answers that are not as due; lays texts on a tape. */
final class Check {
    private int wrong = 0;
    private int asked = 0;

    void due(String call, long got, long want) {
        asked++;
        if (got != want) {
            wrong++;
            System.out.println(call + " answered " + got + ", due is " + want);
        }
    }

    void finish(String name) {
        System.out.println(name + ": " + asked + " answers, " + wrong + " wrong");
        if (wrong != 0 || asked == 0) {
            System.exit(1);
        }
    }

    /** Puts a text on the tape, which must be empty ahead. */
    static void tape(PeopleLent x, String text) {
        int n = text.length();
        for (int from = 0; from < n; from += 20) {
            int[] four = new int[5];
            for (int i = 0; i < 20; i++) {
                int one = from + i < n ? text.charAt(from + i) & 255 : ' ';
                four[i / 4] = four[i / 4] << 8 | one;
            }
            x.feed(four[0], four[1], four[2], four[3], four[4]);
        }
        x.end(n);
    }

    static int law(PeopleLent x, String text) {
        tape(x, text);
        return x.law();
    }

    static int orders(PeopleLent x, String text) {
        tape(x, text);
        return x.orders();
    }

    static String many(String one, int times) {
        return one.repeat(times);
    }
}
