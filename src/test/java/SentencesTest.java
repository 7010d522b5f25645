import java.io.IOException;

/** All promises: each sentence of the document that names an edge has answers of its own; run in the project's folder. */
public final class SentencesTest {
    public static void main(String[] args) throws IOException {
        Said said = new Said();
        Histories histories = new Histories(said);
        new CabinSentences(said, histories).test();
        new CallSentences(said, histories).test();
        new BoardSentences(said, histories).test();
        new ChoiceSentences(said, histories).test();
        new OutSentences(said, histories).test();
        new ToldSentences(said, histories).test();
        said.end("SentencesTest");
    }
}
