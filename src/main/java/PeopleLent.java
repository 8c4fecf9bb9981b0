/** A library in which the books take out people. */
public final class PeopleLent {
    public static final int NONE = -1;

    private static final int BAD_NUMBER = -1;
    private static final int NO_SUCH = -2;
    private static final int CANNOT = -3;
    private static final int NO_ROOM = -5;
    private static final int BAD_TEXT = -6;

    private static final int MOST_BOOKS = 8;
    private static final int MOST_READERS = 6;
    private static final int MOST_WAITING = 12;
    private static final int MOST_LAWS = 6;
    private static final int MOST_UNDOS = 16;
    private static final int MOST_IMAGES = 2;
    private static final int MOST_TRAITS = 63;
    private static final int MOST_PURSE = 999;
    private static final int MOST_WORN = 99;
    private static final int TAPE_ROOM = 400;
    private static final int FEED_BYTES = 20;

    private static final int WEEK = 0;
    private static final int WEEKS = 1;
    private static final int RATE = 2;
    private static final int MOOD = 3;
    private static final int TERMS = 4;
    private static final int LAST_WEEK = 999;
    private static final int[] TERM_LEAST = {0, 1, 0, 0};
    private static final int[] TERM_MOST = {LAST_WEEK, 20, 10, 9};

    /** What a LAW's CLAUSE tells. */
    private static final int FINES = 0;
    private static final int WEARS = 1;
    private static final int TAKES = 2;
    private static final int BARS = 3;
    private static final int[] TOLD_LEAST = {0, 0, 1, 0};
    private static final int[] TOLD_MOST = {99, 20, 99, 1};

    /** What an ORDER's CLAUSE does, and what undo() answers for it. */
    private static final int LEND = 0;
    private static final int BRING = 1;
    private static final int WAIT = 2;
    private static final int PASS = 3;

    private static final int MOST_CLAUSES = 12;
    private static final int MOST_PARTS = 50;
    private static final int MOST_BRACKETS = 8;
    private static final int MOST_NUMBER = 1000;
    private static final int MOST_TIMES = 20;
    private static final int MOST_VALUE = 1000000000;
    /** Beyond all that a SUM may be. */
    private static final int BROKEN = -2000000000;
    private static final int FALSE = 0;
    private static final int TRUE = 1;

    /** A TEXT's code: numbers stand for themselves, words from WORD on, what joins them below 0. */
    private static final int WORD = 2000;
    private static final int STOP = -1;
    private static final int OR = -2;
    private static final int AND = -3;
    private static final int NOT = -4;

    /** Where an ORDER's words stand in the row of their values. */
    private static final int WORD_WEEK = 0;
    private static final int WORD_DONE = 1;
    private static final int WORD_LATEST = 2;
    private static final int WORD_WAITING = 3;
    private static final int WORD_WITH = 4;
    private static final int WORD_WORN = WORD_WITH + MOST_READERS;
    private static final int WORD_PURSE = WORD_WORN + MOST_READERS;
    private static final int ORDER_WORDS = WORD_PURSE + MOST_BOOKS;
    private static final int LAW_WORDS = 9;

    private static final int MOST_SEED = 1000000;
    private static final int MOST_YEARS = 60;
    private static final int NOT_SERVED = 100;

    private final Laws laws;
    private final Hall hall;
    private final Undos undos;
    /** What ORDERS have done so far: it counts only when all of them could be. */
    private final Undos pending;
    private final Hall ahead;
    private final Hall paper;
    private final Tape tape;
    private final Parser parser;
    private final Finder finder;
    private final Image[] images;
    private final int[] words;
    private final int[] refused;
    private int slipped;
    private int stoppedAt;
    private int lastRefusal;

    public PeopleLent() {
        laws = new Laws();
        hall = new Hall(laws);
        undos = new Undos();
        pending = new Undos();
        ahead = new Hall(laws);
        paper = new Hall(laws);
        tape = new Tape();
        parser = new Parser(tape);
        finder = new Finder(hall);
        images = new Image[MOST_IMAGES];
        words = new int[ORDER_WORDS];
        refused = new int[-BAD_TEXT + 1];
        slipped = 0;
        stoppedAt = NONE;
        lastRefusal = 0;
    }

    private int refuse(int why) {
        lastRefusal = why;
        if (why < 0 && why >= BAD_TEXT) {
            refused[-why]++;
        }
        return why;
    }

    private int grant(int answer) {
        lastRefusal = 0;
        return answer;
    }

    /** For calls whose answers, when they are not REFUSED, are never below 0. */
    private int answered(int answer) {
        return answer < 0 ? refuse(answer) : grant(answer);
    }

    private static boolean within(int value, int least, int most) {
        return value >= least && value <= most;
    }

    private static boolean bookCanBe(int length, int wants, int gives, int purse) {
        return within(length, 1, 9) && within(wants, 0, MOST_TRAITS)
            && within(gives, 0, MOST_TRAITS) && within(purse, 0, MOST_PURSE);
    }

    public int book(int length, int wants, int gives, int purse) {
        if (!bookCanBe(length, wants, gives, purse)) {
            return refuse(BAD_NUMBER);
        }
        if (hall.books >= MOST_BOOKS) {
            return refuse(NO_ROOM);
        }
        undos.forget();
        return grant(hall.addBook(length, wants, gives, purse));
    }

    public int of(int book, int what) {
        if (!hall.hasBook(book)) {
            return NONE;
        }
        switch (what) {
            case 0: return hall.length[book];
            case 1: return hall.wants[book];
            case 2: return hall.gives[book];
            case 3: return hall.purse[book];
            case 4: return hall.readerWith(book);
            default: return NONE;
        }
    }

    public int reader(int traits, int rare) {
        if (!within(traits, 0, MOST_TRAITS) || !within(rare, 0, 1)) {
            return refuse(BAD_NUMBER);
        }
        if (hall.readers >= MOST_READERS) {
            return refuse(NO_ROOM);
        }
        undos.forget();
        return grant(hall.addReader(traits, rare));
    }

    public int at(int reader, int what) {
        if (!hall.hasReader(reader)) {
            return NONE;
        }
        switch (what) {
            case 0: return hall.traits[reader];
            case 1: return hall.rare[reader];
            case 2: return hall.worn[reader];
            case 3: return hall.bookOf[reader];
            case 4: return hall.bookOf[reader] == NONE ? NONE : hall.since[reader];
            case 5: return hall.read[reader];
            default: return NONE;
        }
    }

    public int asks(int book, int reader, int what) {
        if (!hall.hasBook(book) || !hall.hasReader(reader)) {
            return NONE;
        }
        int traits = hall.traits[reader];
        switch (what) {
            case FINES:
            case WEARS:
            case TAKES:
            case BARS: return hall.asked(what, laws.inForce, book, reader, traits);
            case 4: return hall.fits(traits, book) ? 1 : 0;
            case 5: return hall.canHave(book, reader) ? 1 : 0;
            default: return NONE;
        }
    }

    public int terms(int what, int value) {
        if (!within(what, 0, TERMS - 1) || !within(value, TERM_LEAST[what], TERM_MOST[what])) {
            return refuse(BAD_NUMBER);
        }
        int was = hall.term[what];
        undos.forget();
        hall.term[what] = value;
        return grant(was);
    }

    public int feed(int a, int b, int c, int d, int e) {
        if (tape.size + FEED_BYTES > TAPE_ROOM) {
            return NONE;
        }
        tape.add(a);
        tape.add(b);
        tape.add(c);
        tape.add(d);
        tape.add(e);
        return tape.size;
    }

    public int end(int n) {
        if (!within(n, 0, tape.size)) {
            return NONE;
        }
        tape.size = n;
        return n;
    }

    public int row() {
        if (tape.size == 0) {
            return refuse(BAD_TEXT);
        }
        undos.forget();
        int came = 0;
        slipped = 0;
        for (int at = 0; at < tape.size; at += 4) {
            if (bookFromTape(at)) {
                came++;
            } else {
                slipped++;
            }
        }
        tape.size = 0;
        return grant(came);
    }

    private boolean bookFromTape(int at) {
        if (at + 4 > tape.size || hall.books >= MOST_BOOKS) {
            return false;
        }
        int length = tape.bytes[at];
        int wants = tape.bytes[at + 1];
        int gives = tape.bytes[at + 2];
        int purse = tape.bytes[at + 3] * 10;
        if (!bookCanBe(length, wants, gives, purse)) {
            return false;
        }
        hall.addBook(length, wants, gives, purse);
        return true;
    }

    public int slips() {
        return slipped;
    }

    public int law() {
        if (laws.size >= MOST_LAWS) {
            tape.size = 0;
            return refuse(NO_ROOM);
        }
        boolean reads = parser.reads(true);
        tape.size = 0;
        return reads ? grant(laws.add(parser.text.copied())) : refuse(BAD_TEXT);
    }

    public int orders() {
        boolean reads = parser.reads(false);
        tape.size = 0;
        stoppedAt = NONE;
        if (!reads) {
            return refuse(BAD_TEXT);
        }
        ahead.copyFrom(hall);
        pending.forget();
        words[WORD_DONE] = 0;
        words[WORD_LATEST] = NONE;
        for (int clause = 0; clause < parser.text.clauses; clause++) {
            for (int time = 0; time < parser.text.times[clause]; time++) {
                if (!runs(parser.text, clause)) {
                    hall.copyFrom(ahead);
                    stoppedAt = clause;
                    return refuse(CANNOT);
                }
            }
        }
        undos.addAll(pending);
        return grant(words[WORD_DONE]);
    }

    /** Whether a CLAUSE could be: one whose "if" is not so is not run, which is no hindrance. */
    private boolean runs(Text text, int clause) {
        tellOrderWords();
        if (text.test[clause] != NONE && valueOf(text, text.test[clause]) != TRUE) {
            return true;
        }
        int first = text.first[clause] == NONE ? 0 : valueOf(text, text.first[clause]);
        int second = text.second[clause] == NONE ? 0 : valueOf(text, text.second[clause]);
        if (first == BROKEN || second == BROKEN) {
            return false;
        }
        int kind = text.kind[clause];
        int told = act(kind, first, second, pending);
        if (told < 0) {
            return false;
        }
        words[WORD_DONE]++;
        if (kind == LEND || kind == BRING) {
            words[WORD_LATEST] = told;
        }
        return true;
    }

    private int valueOf(Text text, int start) {
        return laws.reckoner.value(text, start, words);
    }

    private void tellOrderWords() {
        words[WORD_WEEK] = hall.term[WEEK];
        words[WORD_WAITING] = hall.waiting;
        for (int r = 0; r < MOST_READERS; r++) {
            words[WORD_WITH + r] = hall.hasReader(r) ? hall.bookOf[r] : NONE;
            words[WORD_WORN + r] = hall.hasReader(r) ? hall.worn[r] : NONE;
        }
        for (int b = 0; b < MOST_BOOKS; b++) {
            words[WORD_PURSE + b] = hall.hasBook(b) ? hall.purse[b] : NONE;
        }
    }

    /** Does one thing, if it can be, and keeps how it was ahead: the answer, or by what it is REFUSED. */
    private int act(int kind, int a, int b, Undos kept) {
        int why;
        switch (kind) {
            case LEND: why = hall.lendRefusal(a, b); break;
            case BRING: why = hall.bringRefusal(a); break;
            case WAIT: why = hall.waitRefusal(a, b); break;
            default: why = hall.passRefusal();
        }
        if (why != 0) {
            return why;
        }
        kept.keep(hall, kind);
        switch (kind) {
            case LEND: return hall.lendOut(a, b);
            case BRING: return hall.leave(a);
            case WAIT: return hall.addWaiting(a, b);
            default: return hall.passWeek();
        }
    }

    public int fault() {
        return parser.faultAt;
    }

    public int stopped() {
        return stoppedAt;
    }

    public int force(int law) {
        if (law != NONE && !laws.has(law)) {
            return refuse(NO_SUCH);
        }
        int was = laws.inForce;
        laws.inForce = law;
        return grant(was);
    }

    public int lend(int reader, int book) {
        return answered(act(LEND, reader, book, undos));
    }

    public int bring(int reader) {
        return answered(act(BRING, reader, 0, undos));
    }

    public int waits(int book, int reader) {
        return answered(act(WAIT, book, reader, undos));
    }

    public int pass() {
        return answered(act(PASS, 0, 0, undos));
    }

    public int undo() {
        if (undos.size == 0) {
            return refuse(CANNOT);
        }
        return grant(undos.takeBack(hall));
    }

    public int served(int what) {
        if (!within(what, 0, hall.readers)) {
            return NONE;
        }
        finder.fillNear();
        return finder.mostServed(what);
    }

    public int turn(int reader) {
        return hall.hasReader(reader) ? hall.firstWaiting(reader) : NONE;
    }

    public int way(int from, int to, int i) {
        if (!within(from, 0, MOST_TRAITS) || !within(to, 0, MOST_TRAITS)) {
            return NONE;
        }
        return finder.quickest(from, to, i);
    }

    public int sets(int reader, int from, int i) {
        if (!hall.hasReader(reader) || !within(from, 0, MOST_TRAITS)) {
            return NONE;
        }
        int found = finder.findSets(from, hall.traits[reader]);
        return i == NONE ? found : finder.setNumbered(i);
    }

    public int ask(int reader, int from, int what) {
        if (!hall.hasReader(reader) || !within(from, 0, MOST_TRAITS) || !within(what, 0, 1)) {
            return NONE;
        }
        int found = finder.findSets(from, hall.traits[reader]);
        return found == 0 ? NONE : finder.bestToAsk(found, what);
    }

    public int last(int reader, int from) {
        if (!hall.hasReader(reader) || !within(from, 0, MOST_TRAITS)) {
            return NONE;
        }
        finder.findSets(from, hall.traits[reader]);
        return finder.lastOnes();
    }

    public int nest(int i) {
        return finder.longestNest(i);
    }

    public int all(int what) {
        if (!within(what, 0, 1)) {
            return NONE;
        }
        int who = finder.fewestReaders();
        return what == 0 ? Integer.bitCount(who) : who;
    }

    public int owed(int law) {
        if (law != NONE && !laws.has(law)) {
            return NONE;
        }
        int sum = 0;
        for (int r = 0; r < hall.readers; r++) {
            int book = hall.bookOf[r];
            if (book != NONE) {
                sum += hall.dues(r, hall.asked(FINES, law, book, r, hall.traits[r]));
            }
        }
        return sum;
    }

    public long whole(int k, int n) {
        if (!within(k, 1, 20) || !within(n, 0, 99)) {
            return NONE;
        }
        return finder.chanceWhole(k, n);
    }

    public int years(int seed, int n) {
        if (!within(seed, 0, MOST_SEED) || !within(n, 1, MOST_YEARS)) {
            return refuse(BAD_NUMBER);
        }
        int books = hall.books;
        int readers = hall.readers;
        if (books <= 0 || readers <= 0) {
            return refuse(CANNOT);
        }
        paper.copyFrom(hall);
        int s = seed;
        int paid = 0;
        for (int week = 0; week < n && paper.term[WEEK] < LAST_WEEK; week++) {
            s = nextDrawn(s);
            int reader = s % readers;
            s = nextDrawn(s);
            int book = s % books;
            s = nextDrawn(s);
            paid += paperMove(reader, book, s % 3);
            paper.passWeek();
        }
        return grant(paid);
    }

    private static int nextDrawn(int s) {
        return (s * 1103 + 12345) % 1000003;
    }

    private int paperMove(int reader, int book, int chance) {
        if (chance == 0 && paper.bookOf[reader] != NONE) {
            return paper.leave(reader);
        }
        return paper.lendRefusal(reader, book) == 0 ? paper.lendOut(reader, book) : 0;
    }

    public int drawn(int k, int what) {
        if (what == 3) {
            return paper.hasBook(k) ? paper.purse[k] : NONE;
        }
        if (!paper.hasReader(k)) {
            return NONE;
        }
        switch (what) {
            case 0: return paper.traits[k];
            case 1: return paper.worn[k];
            case 2: return paper.bookOf[k];
            default: return NONE;
        }
    }

    public int image(int k) {
        if (!within(k, 0, MOST_IMAGES - 1)) {
            return refuse(BAD_NUMBER);
        }
        if (images[k] == null) {
            images[k] = new Image();
        }
        images[k].hall.copyFrom(hall);
        images[k].laws.copyFrom(laws);
        return grant(0);
    }

    public int back(int k) {
        if (!within(k, 0, MOST_IMAGES - 1)) {
            return refuse(BAD_NUMBER);
        }
        if (images[k] == null) {
            return refuse(NO_SUCH);
        }
        hall.copyFrom(images[k].hall);
        laws.copyFrom(images[k].laws);
        undos.forget();
        return grant(0);
    }

    public int count(int what) {
        if (within(what, 13, 12 + TERMS)) {
            return hall.term[what - 13];
        }
        switch (what) {
            case 0: return hall.books;
            case 1: return hall.readers;
            case 2: return hall.lentOut();
            case 3: return hall.waiting;
            case 4: return laws.size;
            case 5: return undos.size;
            case 6: return tape.size;
            case 7: return refused[-BAD_NUMBER];
            case 8: return refused[-NO_SUCH];
            case 9: return refused[-CANNOT];
            case 10: return refused[-NO_ROOM];
            case 11: return refused[-BAD_TEXT];
            case 12: return laws.inForce;
            default: return NONE;
        }
    }

    public int status() {
        return lastRefusal;
    }

    /** BOOKS, READERS, WAITING and TERMS: all that lendings change, and what they rest on. */
    private static final class Hall {
        final Laws laws;
        int books;
        int readers;
        int waiting;
        final int[] length = new int[MOST_BOOKS];
        final int[] wants = new int[MOST_BOOKS];
        final int[] gives = new int[MOST_BOOKS];
        final int[] purse = new int[MOST_BOOKS];
        final int[] traits = new int[MOST_READERS];
        final int[] rare = new int[MOST_READERS];
        final int[] worn = new int[MOST_READERS];
        final int[] bookOf = new int[MOST_READERS];
        final int[] since = new int[MOST_READERS];
        final int[] read = new int[MOST_READERS];
        final int[] waitingBook = new int[MOST_WAITING];
        final int[] waitingReader = new int[MOST_WAITING];
        final int[] term = {0, 3, 1, 0};

        Hall(Laws laws) {
            this.laws = laws;
        }

        void copyFrom(Hall other) {
            books = other.books;
            readers = other.readers;
            waiting = other.waiting;
            System.arraycopy(other.length, 0, length, 0, MOST_BOOKS);
            System.arraycopy(other.wants, 0, wants, 0, MOST_BOOKS);
            System.arraycopy(other.gives, 0, gives, 0, MOST_BOOKS);
            System.arraycopy(other.purse, 0, purse, 0, MOST_BOOKS);
            System.arraycopy(other.traits, 0, traits, 0, MOST_READERS);
            System.arraycopy(other.rare, 0, rare, 0, MOST_READERS);
            System.arraycopy(other.worn, 0, worn, 0, MOST_READERS);
            System.arraycopy(other.bookOf, 0, bookOf, 0, MOST_READERS);
            System.arraycopy(other.since, 0, since, 0, MOST_READERS);
            System.arraycopy(other.read, 0, read, 0, MOST_READERS);
            System.arraycopy(other.waitingBook, 0, waitingBook, 0, MOST_WAITING);
            System.arraycopy(other.waitingReader, 0, waitingReader, 0, MOST_WAITING);
            System.arraycopy(other.term, 0, term, 0, TERMS);
        }

        boolean hasBook(int book) {
            return book >= 0 && book < books;
        }

        boolean hasReader(int reader) {
            return reader >= 0 && reader < readers;
        }

        int addBook(int itsLength, int itsWants, int itsGives, int itsPurse) {
            if (books >= MOST_BOOKS) {
                return NONE;
            }
            length[books] = itsLength;
            wants[books] = itsWants;
            gives[books] = itsGives;
            purse[books] = itsPurse;
            books++;
            return books - 1;
        }

        int addReader(int itsTraits, int itsRare) {
            if (readers >= MOST_READERS) {
                return NONE;
            }
            traits[readers] = itsTraits;
            rare[readers] = itsRare;
            worn[readers] = 0;
            bookOf[readers] = NONE;
            since[readers] = 0;
            read[readers] = 0;
            readers++;
            return readers - 1;
        }

        int readerWith(int book) {
            for (int r = 0; r < readers; r++) {
                if (bookOf[r] == book) {
                    return r;
                }
            }
            return NONE;
        }

        int lentOut() {
            int out = 0;
            for (int r = 0; r < readers; r++) {
                if (bookOf[r] != NONE) {
                    out++;
                }
            }
            return out;
        }

        boolean fits(int traitsThen, int book) {
            return (wants[book] & ~traitsThen) == 0;
        }

        private int keptWeeks(int book, int reader) {
            return bookOf[reader] == book ? term[WEEK] - since[reader] : -1;
        }

        private int toldWithout(int kind, int book) {
            switch (kind) {
                case FINES: return 2;
                case WEARS: return 1;
                case TAKES: return length[book];
                default: return 0;
            }
        }

        private void tellLawWords(int book, int reader, int traitsThen) {
            int[] words = laws.words;
            words[0] = book;
            words[1] = length[book];
            words[2] = purse[book];
            words[3] = reader;
            words[4] = traitsThen;
            words[5] = worn[reader];
            words[6] = keptWeeks(book, reader);
            words[7] = term[WEEK];
            words[8] = term[MOOD];
        }

        /** What the last CLAUSE of a kind that HOLDS tells by a LAW, for a READER who has such TRAITS. */
        int asked(int kind, int law, int book, int reader, int traitsThen) {
            tellLawWords(book, reader, traitsThen);
            Text text = laws.textOf(law);
            for (int c = text.clauses - 1; c >= 0; c--) {
                if (text.kind[c] != kind) {
                    continue;
                }
                if (text.test[c] != NONE && laws.reckoner.value(text, text.test[c], laws.words) != TRUE) {
                    continue;
                }
                int told = text.first[c] == NONE ? TRUE : laws.reckoner.value(text, text.first[c], laws.words);
                if (told != BROKEN) {
                    return Math.max(TOLD_LEAST[kind], Math.min(TOLD_MOST[kind], told));
                }
            }
            return toldWithout(kind, book);
        }

        private boolean readsThrough(int reader, int takes) {
            return keptWeeks(bookOf[reader], reader) >= takes;
        }

        /** What the BOOK of a READER pays, if it leaves now, at a fine for each late week. */
        int dues(int reader, int fine) {
            int book = bookOf[reader];
            if (!hasBook(book)) {
                return 0;
            }
            int late = Math.max(0, keptWeeks(book, reader) - term[WEEKS]);
            return Math.min(purse[book], late * fine);
        }

        private int traitsBehind(int reader) {
            int book = bookOf[reader];
            if (!hasBook(book)) {
                return traits[reader];
            }
            int takes = asked(TAKES, laws.inForce, book, reader, traits[reader]);
            return readsThrough(reader, takes) ? traits[reader] | gives[book] : traits[reader];
        }

        int lendRefusal(int reader, int book) {
            if (!hasReader(reader) || !hasBook(book)) {
                return NO_SUCH;
            }
            if (readerWith(book) != NONE || rare[reader] != 0 || worn[reader] >= MOST_WORN) {
                return CANNOT;
            }
            int then = traitsBehind(reader);
            boolean may = fits(then, book) && asked(BARS, laws.inForce, book, reader, then) == 0;
            return may ? 0 : CANNOT;
        }

        boolean canHave(int book, int reader) {
            return bookOf[reader] == NONE && lendRefusal(reader, book) == 0;
        }

        int bringRefusal(int reader) {
            if (!hasReader(reader)) {
                return NO_SUCH;
            }
            return bookOf[reader] == NONE ? CANNOT : 0;
        }

        int waitRefusal(int book, int reader) {
            if (!hasReader(reader) || !hasBook(book)) {
                return NO_SUCH;
            }
            if (bookOf[reader] == book || placeWaiting(book, reader) != NONE) {
                return CANNOT;
            }
            return waiting >= MOST_WAITING ? NO_ROOM : 0;
        }

        int passRefusal() {
            return term[WEEK] < LAST_WEEK ? 0 : CANNOT;
        }

        /** A READER goes to the DESK: what the BOOK pays. All is asked before anything is changed. */
        int leave(int reader) {
            int book = bookOf[reader];
            if (!hasBook(book)) {
                return 0;
            }
            int takes = asked(TAKES, laws.inForce, book, reader, traits[reader]);
            int paid = dues(reader, asked(FINES, laws.inForce, book, reader, traits[reader]));
            if (readsThrough(reader, takes)) {
                read[reader] |= 1 << book;
                traits[reader] |= gives[book];
            }
            purse[book] -= paid;
            bookOf[reader] = NONE;
            return paid;
        }

        int lendOut(int reader, int book) {
            int paid = leave(reader);
            bookOf[reader] = book;
            since[reader] = term[WEEK];
            dropWaiting(placeWaiting(book, reader));
            return paid;
        }

        int addWaiting(int book, int reader) {
            if (waiting < MOST_WAITING) {
                waitingBook[waiting] = book;
                waitingReader[waiting] = reader;
                waiting++;
            }
            return waiting;
        }

        private int placeWaiting(int book, int reader) {
            for (int i = 0; i < waiting; i++) {
                if (waitingBook[i] == book && waitingReader[i] == reader) {
                    return i;
                }
            }
            return NONE;
        }

        private void dropWaiting(int place) {
            if (place < 0 || place >= waiting) {
                return;
            }
            waiting--;
            for (int i = place; i < waiting; i++) {
                waitingBook[i] = waitingBook[i + 1];
                waitingReader[i] = waitingReader[i + 1];
            }
        }

        int firstWaiting(int reader) {
            for (int i = 0; i < waiting; i++) {
                if (waitingReader[i] == reader && canHave(waitingBook[i], reader)) {
                    return waitingBook[i];
                }
            }
            return NONE;
        }

        /** No READER's wear rests on another one's, so one after the other is as all at once. */
        int passWeek() {
            for (int r = 0; r < readers; r++) {
                int book = bookOf[r];
                if (book != NONE) {
                    int wear = asked(WEARS, laws.inForce, book, r, traits[r]);
                    worn[r] = Math.min(MOST_WORN, worn[r] + wear);
                }
            }
            term[WEEK]++;
            return term[WEEK];
        }
    }

    /** The LAWS and which is in FORCE. A LAW's Text is never changed, so IMAGES may share it. */
    private static final class Laws {
        private final Text empty = new Text(0, 0);
        private final Text[] texts = new Text[MOST_LAWS];
        final Reckoner reckoner = new Reckoner();
        final int[] words = new int[LAW_WORDS];
        int size = 0;
        int inForce = NONE;

        boolean has(int law) {
            return law >= 0 && law < size;
        }

        Text textOf(int law) {
            return has(law) && texts[law] != null ? texts[law] : empty;
        }

        int add(Text text) {
            if (size >= MOST_LAWS) {
                return NONE;
            }
            texts[size] = text;
            size++;
            return size - 1;
        }

        void copyFrom(Laws other) {
            size = other.size;
            inForce = other.inForce;
            for (int i = 0; i < MOST_LAWS; i++) {
                texts[i] = other.texts[i];
            }
        }
    }

    /** A TEXT that was read: its CLAUSES, each with where its SUMS and its TEST start in the code. */
    private static final class Text {
        final int[] kind;
        final int[] first;
        final int[] second;
        final int[] test;
        final int[] times;
        final int[] code;
        int clauses = 0;
        int size = 0;

        Text(int clauseRoom, int codeRoom) {
            int clausesHere = Math.max(0, clauseRoom);
            kind = new int[clausesHere];
            first = new int[clausesHere];
            second = new int[clausesHere];
            test = new int[clausesHere];
            times = new int[clausesHere];
            code = new int[Math.max(0, codeRoom)];
        }

        void clear() {
            clauses = 0;
            size = 0;
        }

        void open(int itsKind) {
            if (clauses < kind.length) {
                kind[clauses] = itsKind;
                first[clauses] = NONE;
                second[clauses] = NONE;
                test[clauses] = NONE;
                times[clauses] = 1;
                clauses++;
            }
        }

        void add(int one) {
            if (size < code.length) {
                code[size] = one;
                size++;
            }
        }

        /** A Text of its own that has just the room that it needs. */
        Text copied() {
            Text copy = new Text(clauses, size);
            copy.clauses = clauses;
            copy.size = size;
            System.arraycopy(kind, 0, copy.kind, 0, clauses);
            System.arraycopy(first, 0, copy.first, 0, clauses);
            System.arraycopy(second, 0, copy.second, 0, clauses);
            System.arraycopy(test, 0, copy.test, 0, clauses);
            System.arraycopy(times, 0, copy.times, 0, clauses);
            System.arraycopy(code, 0, copy.code, 0, size);
            return copy;
        }
    }

    /** Reckons SUMS and TESTS, whose code has what is joined ahead of what joins it. */
    private static final class Reckoner {
        private final int[] stack = new int[MOST_PARTS];

        int value(Text text, int start, int[] words) {
            int top = 0;
            for (int i = Math.max(0, start); i < text.size; i++) {
                int code = text.code[i];
                if (code == STOP) {
                    break;
                }
                if (code >= WORD) {
                    if (top < MOST_PARTS && code - WORD < words.length) {
                        stack[top] = words[code - WORD];
                        top++;
                    }
                } else if (code >= 0) {
                    if (top < MOST_PARTS) {
                        stack[top] = code;
                        top++;
                    }
                } else if (code == NOT) {
                    if (top > 0 && stack[top - 1] != BROKEN) {
                        stack[top - 1] = TRUE - stack[top - 1];
                    }
                } else if (top > 1) {
                    top--;
                    stack[top - 1] = joined(code, stack[top - 1], stack[top]);
                }
            }
            return top > 0 ? stack[0] : BROKEN;
        }

        /** What stands behind "or", "and" has no effect but its value: it may be reckoned and left aside. */
        private static int joined(int code, int a, int b) {
            if (code == OR) {
                return a == FALSE ? b : a;
            }
            if (code == AND) {
                return a == TRUE ? b : a;
            }
            if (a == BROKEN || b == BROKEN) {
                return BROKEN;
            }
            long value;
            switch (-code) {
                case '+': value = (long) a + b; break;
                case '-': value = (long) a - b; break;
                case '*': value = (long) a * b; break;
                case '/': value = b == 0 ? BROKEN : a / b; break;
                case '%': value = b == 0 ? BROKEN : a % b; break;
                case '<': value = a < b ? TRUE : FALSE; break;
                case '>': value = a > b ? TRUE : FALSE; break;
                default: value = a == b ? TRUE : FALSE;
            }
            return value > MOST_VALUE || value < -MOST_VALUE ? BROKEN : (int) value;
        }
    }

    /** The TAPE's bytes, each 0 .. 255. */
    private static final class Tape {
        final int[] bytes = new int[TAPE_ROOM];
        int size = 0;

        void add(int four) {
            for (int shift = 24; shift >= 0; shift -= 8) {
                if (size < TAPE_ROOM) {
                    bytes[size] = four >>> shift & 255;
                    size++;
                }
            }
        }
    }

    /** Reads the TAPE as a LAW or as ORDERS. */
    private static final class Parser {
        /** TOKENS: single bytes stand for themselves, words from WORDS_FROM on, numbers from NUMBERS_FROM on. */
        private static final int END = 256;
        private static final int UNKNOWN = 257;
        private static final int WORDS_FROM = 300;
        private static final int NUMBERS_FROM = 1000;
        /** A blank stands behind each word, the last one's too. */
        private static final String WORDS = "fines wears takes bars lend bring wait pass book length purse reader traits worn kept week mood done latest waiting with or and not if times to for ";
        private static final int LAW_VERBS = WORDS_FROM;
        private static final int ORDER_VERBS = WORDS_FROM + 4;
        private static final int LAW_WORDS_FROM = WORDS_FROM + 8;
        private static final int TOKEN_PURSE = LAW_WORDS_FROM + 2;
        private static final int TOKEN_WORN = LAW_WORDS_FROM + 5;
        private static final int TOKEN_WEEK = LAW_WORDS_FROM + 7;
        private static final int TOKEN_DONE = LAW_WORDS_FROM + 9;
        private static final int TOKEN_LATEST = TOKEN_DONE + 1;
        private static final int TOKEN_WAITING = TOKEN_DONE + 2;
        private static final int TOKEN_WITH = TOKEN_DONE + 3;
        private static final int TOKEN_OR = TOKEN_DONE + 4;
        private static final int TOKEN_AND = TOKEN_DONE + 5;
        private static final int TOKEN_NOT = TOKEN_DONE + 6;
        private static final int TOKEN_IF = TOKEN_DONE + 7;
        private static final int TOKEN_TIMES = TOKEN_DONE + 8;
        private static final int TOKEN_TO = TOKEN_DONE + 9;
        private static final int TOKEN_FOR = TOKEN_DONE + 10;

        private final Tape tape;
        /** No TOKEN makes more than one code, so the TAPE's room is enough. */
        final Text text = new Text(MOST_CLAUSES, TAPE_ROOM);
        int faultAt = NONE;
        private final int[] token = new int[TAPE_ROOM + 1];
        private final int[] place = new int[TAPE_ROOM + 1];
        private boolean isLaw = true;
        private int at = 0;
        private int parts = 0;

        Parser(Tape tape) {
            this.tape = tape;
        }

        /** The last TOKEN is END, which nothing goes past: so the place that is read stays within the row. */
        boolean reads(boolean asLaw) {
            split();
            text.clear();
            isLaw = asLaw;
            faultAt = NONE;
            at = 0;
            parts = 0;
            for (int clause = 0; clause < MOST_CLAUSES; clause++) {
                boolean could = isLaw ? lawClause(clause) : orderClause(clause);
                if (!could || !condition(clause)) {
                    return false;
                }
                if (token[at] == END) {
                    return true;
                }
                if (token[at] != ';') {
                    return fails();
                }
                at++;
            }
            return fails();
        }

        private boolean fails() {
            faultAt = place[at];
            return false;
        }

        private static boolean isLetter(int one) {
            return one >= 'a' && one <= 'z';
        }

        private static boolean isDigit(int one) {
            return one >= '0' && one <= '9';
        }

        private void split() {
            int found = 0;
            int from = 0;
            while (from < tape.size) {
                int to = from + 1;
                int one = tape.bytes[from];
                if (one != ' ') {
                    place[found] = from;
                    if (isLetter(one)) {
                        while (to < tape.size && isLetter(tape.bytes[to])) {
                            to++;
                        }
                        token[found] = wordToken(from, to);
                    } else if (isDigit(one)) {
                        while (to < tape.size && isDigit(tape.bytes[to])) {
                            to++;
                        }
                        token[found] = numberToken(from, to);
                    } else {
                        token[found] = one;
                    }
                    found++;
                }
                from = to;
            }
            place[found] = tape.size;
            token[found] = END;
        }

        private int wordToken(int from, int to) {
            int word = 0;
            int same = 0;
            for (int i = 0; i < WORDS.length(); i++) {
                char sign = WORDS.charAt(i);
                if (sign == ' ') {
                    if (same == to - from) {
                        return WORDS_FROM + word;
                    }
                    word++;
                    same = 0;
                } else if (same != NONE) {
                    same = from + same < to && tape.bytes[from + same] == sign ? same + 1 : NONE;
                }
            }
            return UNKNOWN;
        }

        private int numberToken(int from, int to) {
            int number = 0;
            for (int i = from; i < to; i++) {
                number = Math.min(MOST_NUMBER + 1, number * 10 + tape.bytes[i] - '0');
            }
            return NUMBERS_FROM + number;
        }

        /** The NUMBER that stands here, if it is one of these; else NONE. */
        private int numberHere(int least, int most) {
            int number = token[at] - NUMBERS_FROM;
            return number >= least && number <= most ? number : NONE;
        }

        private boolean lawClause(int clause) {
            int kind = token[at] - LAW_VERBS;
            if (kind < FINES || kind > BARS) {
                return fails();
            }
            at++;
            text.open(kind);
            return kind == BARS || wholeSum(text.first, clause);
        }

        /** A CLAUSE's SUM, whose start is noted. */
        private boolean wholeSum(int[] starts, int clause) {
            starts[clause] = text.size;
            boolean could = sum(0);
            text.add(STOP);
            return could;
        }

        private boolean orderClause(int clause) {
            int kind = token[at] - ORDER_VERBS;
            if (kind < LEND || kind > PASS) {
                return fails();
            }
            at++;
            text.open(kind);
            if (kind != PASS && !wholeSum(text.first, clause)) {
                return false;
            }
            if (kind == LEND || kind == WAIT) {
                if (token[at] != (kind == LEND ? TOKEN_TO : TOKEN_FOR)) {
                    return fails();
                }
                at++;
                if (!wholeSum(text.second, clause)) {
                    return false;
                }
            }
            return repeats(clause);
        }

        private boolean repeats(int clause) {
            if (token[at] != TOKEN_TIMES) {
                return true;
            }
            at++;
            int times = numberHere(1, MOST_TIMES);
            if (times == NONE) {
                return fails();
            }
            text.times[clause] = times;
            at++;
            return true;
        }

        private boolean condition(int clause) {
            if (token[at] != TOKEN_IF) {
                return true;
            }
            at++;
            text.test[clause] = text.size;
            boolean could = test(0);
            text.add(STOP);
            return could;
        }

        private boolean test(int depth) {
            if (!both(depth)) {
                return false;
            }
            for (int i = 0; i < TAPE_ROOM && token[at] == TOKEN_OR; i++) {
                at++;
                if (!both(depth)) {
                    return false;
                }
                text.add(OR);
            }
            return true;
        }

        private boolean both(int depth) {
            if (!plain(depth)) {
                return false;
            }
            for (int i = 0; i < TAPE_ROOM && token[at] == TOKEN_AND; i++) {
                at++;
                if (!plain(depth)) {
                    return false;
                }
                text.add(AND);
            }
            return true;
        }

        /** A row of "not" may be as long as the TAPE: it is counted, not gone down into. */
        private boolean plain(int depth) {
            int nots = 0;
            for (int i = 0; i < TAPE_ROOM && token[at] == TOKEN_NOT; i++) {
                at++;
                nots++;
            }
            boolean could = token[at] == '(' ? bracketed(depth) : comparison(depth);
            if (could && nots % 2 != 0) {
                text.add(NOT);
            }
            return could;
        }

        private boolean bracketed(int depth) {
            if (depth >= MOST_BRACKETS) {
                return fails();
            }
            at++;
            if (!test(depth + 1)) {
                return false;
            }
            if (token[at] != ')') {
                return fails();
            }
            at++;
            return true;
        }

        private boolean comparison(int depth) {
            if (!sum(depth)) {
                return false;
            }
            int sign = token[at];
            if (sign != '<' && sign != '>' && sign != '=') {
                return fails();
            }
            at++;
            if (!sum(depth)) {
                return false;
            }
            text.add(-sign);
            return true;
        }

        private boolean sum(int depth) {
            if (!term(depth)) {
                return false;
            }
            for (int i = 0; i < TAPE_ROOM && (token[at] == '+' || token[at] == '-'); i++) {
                int sign = token[at];
                at++;
                if (!term(depth)) {
                    return false;
                }
                text.add(-sign);
            }
            return true;
        }

        private boolean term(int depth) {
            if (!part(depth)) {
                return false;
            }
            for (int i = 0; i < TAPE_ROOM && (token[at] == '*' || token[at] == '/' || token[at] == '%'); i++) {
                int sign = token[at];
                at++;
                if (!part(depth)) {
                    return false;
                }
                text.add(-sign);
            }
            return true;
        }

        private boolean part(int depth) {
            if (token[at] == '[') {
                return inner(depth);
            }
            if (parts >= MOST_PARTS) {
                return fails();
            }
            parts++;
            int code = numberHere(0, MOST_NUMBER);
            if (code == NONE) {
                code = isLaw ? lawWord() : orderWord();
            }
            if (code == NONE) {
                return fails();
            }
            at++;
            text.add(code);
            return true;
        }

        private boolean inner(int depth) {
            if (depth >= MOST_BRACKETS) {
                return fails();
            }
            at++;
            if (!sum(depth + 1)) {
                return false;
            }
            if (token[at] != ']') {
                return fails();
            }
            at++;
            return true;
        }

        private int lawWord() {
            int word = token[at] - LAW_WORDS_FROM;
            return word >= 0 && word < LAW_WORDS ? WORD + word : NONE;
        }

        /** Of a word with a number behind it, the number is what is gone past next. */
        private int orderWord() {
            switch (token[at]) {
                case TOKEN_WEEK: return WORD + WORD_WEEK;
                case TOKEN_DONE: return WORD + WORD_DONE;
                case TOKEN_LATEST: return WORD + WORD_LATEST;
                case TOKEN_WAITING: return WORD + WORD_WAITING;
                case TOKEN_WITH: return wordOfOne(WORD_WITH, MOST_READERS);
                case TOKEN_WORN: return wordOfOne(WORD_WORN, MOST_READERS);
                case TOKEN_PURSE: return wordOfOne(WORD_PURSE, MOST_BOOKS);
                default: return NONE;
            }
        }

        private int wordOfOne(int word, int most) {
            at++;
            int one = token[at] - NUMBERS_FROM;
            return one >= 0 && one < most ? WORD + word + one : NONE;
        }
    }

    /** How it was ahead of the latest things done: the oldest gives way to the newest. Halls are made when first needed. */
    private static final class Undos {
        private final Hall[] halls = new Hall[MOST_UNDOS];
        private final int[] kinds = new int[MOST_UNDOS];
        private int oldest = 0;
        int size = 0;

        void forget() {
            oldest = 0;
            size = 0;
        }

        void keep(Hall hall, int kind) {
            int place = (oldest + size) % MOST_UNDOS;
            if (halls[place] == null) {
                halls[place] = new Hall(hall.laws);
            }
            halls[place].copyFrom(hall);
            kinds[place] = kind;
            if (size < MOST_UNDOS) {
                size++;
            } else {
                oldest = (oldest + 1) % MOST_UNDOS;
            }
        }

        void addAll(Undos other) {
            for (int i = 0; i < other.size; i++) {
                int place = (other.oldest + i) % MOST_UNDOS;
                if (other.halls[place] != null) {
                    keep(other.halls[place], other.kinds[place]);
                }
            }
        }

        int takeBack(Hall hall) {
            if (size <= 0) {
                return NONE;
            }
            size--;
            int place = (oldest + size) % MOST_UNDOS;
            if (halls[place] != null) {
                hall.copyFrom(halls[place]);
            }
            return kinds[place];
        }
    }

    /** What is kept of all: there is none before the first image() of its number. */
    private static final class Image {
        final Laws laws = new Laws();
        final Hall hall = new Hall(laws);
    }

    /** What is found out on paper; its rows are made once and used again. */
    private static final class Finder {
        private static final int ALL_TRAITS = MOST_TRAITS + 1;
        private static final int BOOK_SETS = 1 << MOST_BOOKS;
        private static final int READER_SETS = 1 << MOST_READERS;
        /** A week weighs more than all BOOKS of a WAY together. */
        private static final int WEEK_WEIGHT = 16;
        private static final int FAR = 1000000;
        private static final long ALL_PARTS = 1000000000000L;
        private static final int MOST_TORN = 20;

        private final Hall hall;
        private final int[] near = new int[READER_SETS];
        private final int[] cost = new int[ALL_TRAITS];
        private final boolean[] reached = new boolean[BOOK_SETS];
        private final boolean[] isSet = new boolean[BOOK_SETS];
        private final int[] traitsOf = new int[BOOK_SETS];
        private final int[] longest = new int[MOST_BOOKS];
        private final long[] torn = new long[MOST_TORN];

        Finder(Hall hall) {
            this.hall = hall;
        }

        /** SERVED, behind fillNear(): how many (what 0), else the BOOK of READER what - 1. */
        int mostServed(int what) {
            int free = (1 << hall.books) - 1;
            int left = mostPairs(0, free);
            if (what == 0) {
                return left;
            }
            for (int r = 0; r < hall.readers; r++) {
                int book = firstServed(r, free, left);
                if (r == what - 1) {
                    return book;
                }
                if (book != NOT_SERVED) {
                    free &= ~(1 << book);
                    left--;
                }
            }
            return NONE;
        }

        /** For each set of READERS the BOOKS that CAN HAVE one of them. */
        void fillNear() {
            near[0] = 0;
            for (int r = 0; r < hall.readers; r++) {
                int can = 0;
                for (int b = 0; b < hall.books; b++) {
                    if (hall.canHave(b, r)) {
                        can |= 1 << b;
                    }
                }
                int one = 1 << r;
                for (int set = one; set < 2 * one; set++) {
                    near[set] = near[set - one] | can;
                }
            }
        }

        /** By Hall's theorem: as many stay without as some set has more READERS than BOOKS near it. */
        private int mostPairs(int firstReader, int free) {
            int most = hall.readers - firstReader;
            int least = most;
            for (int set = 0; set < 1 << hall.readers; set += 1 << firstReader) {
                int pairs = most - Integer.bitCount(set) + Integer.bitCount(near[set] & free);
                least = Math.min(least, pairs);
            }
            return least;
        }

        private int firstServed(int reader, int free, int left) {
            for (int b = 0; b < hall.books; b++) {
                int bit = 1 << b;
                boolean can = (near[1 << reader] & free & bit) != 0;
                if (can && mostPairs(reader + 1, free & ~bit) == left - 1) {
                    return b;
                }
            }
            return NOT_SERVED;
        }

        /** A WAY: its weeks (i NONE) or its i-th BOOK. */
        int quickest(int from, int to, int i) {
            fillCost(to);
            if (cost[from] >= FAR) {
                return NONE;
            }
            if (i == NONE) {
                return cost[from] / WEEK_WEIGHT;
            }
            int traits = from;
            for (int step = 0; step < MOST_BOOKS; step++) {
                int book = nextOnWay(traits);
                if (book == NONE || step == i) {
                    return book;
                }
                traits |= hall.gives[book];
            }
            return NONE;
        }

        private int costOf(int book) {
            return hall.length[book] * WEEK_WEIGHT + 1;
        }

        /** What is added makes TRAITS a higher number, so the higher ones are reckoned first. */
        private void fillCost(int to) {
            for (int traits = MOST_TRAITS; traits >= 0; traits--) {
                cost[traits] = (traits & to) == to ? 0 : FAR;
                for (int b = 0; b < hall.books; b++) {
                    if (hall.fits(traits, b)) {
                        int byBook = cost[traits | hall.gives[b]] + costOf(b);
                        cost[traits] = Math.min(cost[traits], byBook);
                    }
                }
            }
        }

        private int nextOnWay(int traits) {
            if (cost[traits] == 0) {
                return NONE;
            }
            for (int b = 0; b < hall.books; b++) {
                if (hall.fits(traits, b) && cost[traits | hall.gives[b]] + costOf(b) == cost[traits]) {
                    return b;
                }
            }
            return NONE;
        }

        /** HAS READ: marks the sets and tells how many there are. */
        int findSets(int from, int to) {
            int found = 0;
            for (int set = 0; set < 1 << hall.books; set++) {
                traitsOf[set] = from;
                for (int b = 0; b < hall.books; b++) {
                    if ((set & 1 << b) != 0) {
                        traitsOf[set] |= hall.gives[b];
                    }
                }
                reached[set] = set == 0 || lastIn(set) != 0;
                isSet[set] = reached[set] && traitsOf[set] == to;
                if (isSet[set]) {
                    found++;
                }
            }
            return found;
        }

        /** The BOOKS of a set that can have been read behind all others of it. */
        private int lastIn(int set) {
            int ones = 0;
            for (int b = 0; b < hall.books; b++) {
                int bit = 1 << b;
                if ((set & bit) != 0 && reached[set - bit] && hall.fits(traitsOf[set - bit], b)) {
                    ones |= bit;
                }
            }
            return ones;
        }

        int setNumbered(int i) {
            int seen = 0;
            for (int set = 0; set < 1 << hall.books; set++) {
                if (isSet[set]) {
                    if (seen == i) {
                        return set;
                    }
                    seen++;
                }
            }
            return NONE;
        }

        /** To ASK: the BOOK (what 0), how many sets are left at most (1). */
        int bestToAsk(int found, int what) {
            int best = NONE;
            int fewest = found + 1;
            for (int b = 0; b < hall.books; b++) {
                int with = setsWith(b);
                int more = Math.max(with, found - with);
                if (more < fewest) {
                    fewest = more;
                    best = b;
                }
            }
            return what == 0 || best == NONE ? best : fewest;
        }

        private int setsWith(int book) {
            int with = 0;
            for (int set = 0; set < 1 << hall.books; set++) {
                if (isSet[set] && (set & 1 << book) != 0) {
                    with++;
                }
            }
            return with;
        }

        int lastOnes() {
            int ones = 0;
            for (int set = 0; set < 1 << hall.books; set++) {
                if (isSet[set]) {
                    ones |= lastIn(set);
                }
            }
            return ones;
        }

        /** A NEST: how many BOOKS (i NONE), else the i-th. */
        int longestNest(int i) {
            fillLongest();
            int most = 0;
            for (int b = 0; b < hall.books; b++) {
                most = Math.max(most, longest[b]);
            }
            if (i == NONE) {
                return most;
            }
            int ahead = NONE;
            for (int step = 0; step < most; step++) {
                ahead = nextInNest(ahead, most - step);
                if (step == i || ahead == NONE) {
                    return ahead;
                }
            }
            return NONE;
        }

        private boolean wantsMore(int book, int ahead) {
            int less = hall.wants[ahead];
            return hall.wants[book] != less && (less & ~hall.wants[book]) == 0;
        }

        /** How long a NEST from each BOOK on is: what WANTS more is a higher number and is reckoned first. */
        private void fillLongest() {
            for (int wants = MOST_TRAITS; wants >= 0; wants--) {
                for (int b = 0; b < hall.books; b++) {
                    if (hall.wants[b] == wants) {
                        longest[b] = 1 + longestBehind(b);
                    }
                }
            }
        }

        private int longestBehind(int book) {
            int most = 0;
            for (int b = 0; b < hall.books; b++) {
                if (wantsMore(b, book)) {
                    most = Math.max(most, longest[b]);
                }
            }
            return most;
        }

        private int nextInNest(int ahead, int left) {
            for (int b = 0; b < hall.books; b++) {
                if (longest[b] == left && (ahead == NONE || wantsMore(b, ahead))) {
                    return b;
                }
            }
            return NONE;
        }

        /** ALL HAD, as bits: a lower set gives way only to one that has fewer. */
        int fewestReaders() {
            int must = fittedBy((1 << hall.readers) - 1);
            int best = (1 << hall.readers) - 1;
            for (int set = best; set >= 0; set--) {
                if (Integer.bitCount(set) <= Integer.bitCount(best) && fittedBy(set) == must) {
                    best = set;
                }
            }
            return best;
        }

        private int fittedBy(int set) {
            int books = 0;
            for (int r = 0; r < hall.readers; r++) {
                for (int b = 0; b < hall.books; b++) {
                    if ((set & 1 << r) != 0 && hall.fits(hall.traits[r], b)) {
                        books |= 1 << b;
                    }
                }
            }
            return books;
        }

        /** WHOLE: the chances of having been torn 0, 1, .. times, each share of which is cut by itself. */
        long chanceWhole(int k, int n) {
            int rate = hall.term[RATE];
            int kinds = Math.min(k, MOST_TORN);
            for (int j = 0; j < kinds; j++) {
                torn[j] = j == 0 ? ALL_PARTS : 0;
            }
            for (int week = 0; week < n; week++) {
                for (int j = kinds - 1; j >= 0; j--) {
                    long more = j == 0 ? 0 : torn[j - 1] * rate / 10;
                    torn[j] = torn[j] * (10 - rate) / 10 + more;
                }
            }
            long sum = 0;
            for (int j = 0; j < kinds; j++) {
                sum += torn[j];
            }
            return sum;
        }
    }
}
