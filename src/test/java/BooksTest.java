public final class BooksTest {
    public static void main(String[] args) {
        Check c = new Check();
        PeopleLent x = new PeopleLent();
        c.due("count(0)", x.count(0), 0);
        c.due("book", x.book(1, 0, 0, 0), 0);
        c.finish("BooksTest");
    }
}
