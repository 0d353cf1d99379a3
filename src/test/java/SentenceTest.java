import java.io.IOException;

/** A test of each sentence of promises 1 to 45 and of the terms, on both sides of every bound that it names. */
public final class SentenceTest {
    public static void main(String[] args) throws IOException {
        Sentences sentences = new Sentences();
        SentenceGroup[] groups = {new TextSentences(sentences), new ToldSentences(sentences), new RingSentences(sentences),
            new HourSentences(sentences), new AloneSentences(sentences), new PearSentences(sentences), new TrialSentences(sentences),
            new DrawSentences(sentences), new RowSentences(sentences), new ImageSentences(sentences)};
        for (SentenceGroup group : groups) {
            group.all();
        }
        sentences.finish();
    }
}
