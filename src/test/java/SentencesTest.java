import java.nio.file.Path;

/** The document read sentence by sentence: for each the case that it names, and each word of it told by a test. */
public final class SentencesTest {
    public static void main(String[] args) throws Exception {
        Sentences s = new Sentences(Path.of("../shared/DOC.md"));
        ShelfSentences.run(s);
        TextSentences.run(s);
        LawSentences.run(s);
        OrderSentences.run(s);
        LendSentences.run(s);
        PaperSentences.run(s);
        YearSentences.run(s);
        PromiseSentences.run(s);
        QuestionSentences.run(s);
        s.finish("SentencesTest");
    }
}
