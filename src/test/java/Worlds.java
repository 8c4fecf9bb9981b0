/** Libraries to put a call to. Each takes few enough calls that there is room for all that is asked of it. */
final class Worlds {
    private Worlds() {
    }

    static PeopleLent empty() {
        return new PeopleLent();
    }

    /**
     * Some of everything: books 0 (with reader 0), 1 (with reader 1), 2 (with none, wants 3); reader 2 is rare; laws 0
     * (in force), 1; both images, undos, years, a slip, a fault at 10, a stop at 1; five bytes on the tape. Week 2.
     */
    static PeopleLent rich() {
        PeopleLent x = new PeopleLent();
        x.feed(0x02000132, 0x03010228, 0x09000000, 0, 0);
        x.end(9);
        x.row();
        x.book(1, 3, 4, 50);
        x.reader(0, 0);
        x.reader(3, 0);
        x.reader(63, 1);
        x.terms(1, 1);
        x.terms(2, 3);
        Check.law(x, "fines 3;wears 2 if book=0;bars if mood=9");
        Check.law(x, "takes 1;fines 9");
        x.force(0);
        x.image(0);
        x.waits(2, 1);
        x.waits(0, 2);
        x.lend(0, 0);
        x.lend(1, 1);
        x.pass();
        x.image(1);
        x.pass();
        x.waits(1, 0);
        x.years(7, 20);
        Check.orders(x, "pass;bring 2");
        Check.law(x, "fines 1 if");
        x.feed(0x09010203, 0x07000000, 0, 0, 0);
        x.end(5);
        return x;
    }

    /**
     * As much of everything as there can be: readers 0 .. 3 are with books 0 .. 3 and worn 99, reader 4 is worn 99 at
     * the desk, reader 5 is rare; books 6, 7 wait for all six; week 999; 400 bytes on the tape.
     */
    static PeopleLent full() {
        PeopleLent x = new PeopleLent();
        for (int b = 0; b < 8; b++) {
            x.book(1 + b, b == 5 ? 32 : 0, b, 100 + b);
        }
        for (int r = 0; r < 6; r++) {
            x.reader(r, r / 5);
        }
        x.image(0);
        x.terms(0, 994);
        Check.law(x, "wears 20;fines 5;takes 5");
        for (int law = 1; law < 6; law++) {
            Check.law(x, "fines " + law);
        }
        x.force(0);
        for (int r = 0; r < 6; r++) {
            x.waits(6, r);
            x.waits(7, r);
        }
        for (int r = 0; r < 5; r++) {
            x.lend(r, r);
        }
        for (int week = 0; week < 5; week++) {
            x.pass();
        }
        x.bring(4);
        x.image(1);
        x.years(3, 60);
        Check.tape(x, Check.many(" ", 396) + "pass");
        return x;
    }

    /** Book 1 has reader 1 since week 4, it is week 6; book 0 and reader 0 are at rest; no laws yet. */
    static PeopleLent lawful() {
        PeopleLent x = new PeopleLent();
        x.book(4, 0, 1, 83);
        x.book(9, 2, 8, 55);
        x.reader(7, 0);
        x.reader(18, 0);
        x.terms(3, 8);
        x.terms(0, 4);
        x.lend(1, 1);
        x.pass();
        x.pass();
        return x;
    }

    /** Three books, the last wants 4; three readers, the last rare; week 0, all at the desk. */
    static PeopleLent orderly() {
        PeopleLent x = new PeopleLent();
        x.book(2, 0, 1, 100);
        x.book(3, 0, 2, 7);
        x.book(1, 4, 4, 50);
        x.reader(0, 0);
        x.reader(3, 0);
        x.reader(63, 1);
        return x;
    }
}
