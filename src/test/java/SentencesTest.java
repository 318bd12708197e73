import java.io.IOException;
import java.nio.file.Path;

/** All sentences of the document, promise by promise; none of its words may be left without a test. */
final class SentencesTest {
    private SentencesTest() { }

    public static void main(String[] args) throws IOException {
        Sentences s = new Sentences(Path.of("../shared/DOC.md"));
        new OverviewSentences(s).ask();
        new TermsSentences(s).ask();
        new ScaleSentences(s).ask();
        new TextSentences(s).ask();
        new CartSentences(s).ask();
        new MakingSentences(s).ask();
        new WeighingSentences(s).ask();
        new DaySentences(s).ask();
        new ToldSentences(s).ask();
        new LotSentences(s).ask();
        new HostSentences(s).ask();
        s.end();
    }
}
