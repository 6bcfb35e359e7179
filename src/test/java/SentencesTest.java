import java.io.IOException;

/** Every sentence of the document, under its own words, worked out by hand. */
public final class SentencesTest {
    private SentencesTest() {
    }

    public static void main(String[] args) throws IOException {
        BeamSentences.all();
        StaticsSentences.all();
        ThoughtSentences.all();
        TextSentences.all();
        RowSentences.all();
        AnswerSentences.all();
        Sentences.everyWordHasATest();
        int wrong = Sentences.wrong();
        System.out.println(wrong == 0 ? "every sentence holds" : wrong + " answers are not as due");
        if (wrong != 0) {
            System.exit(1);
        }
    }
}
