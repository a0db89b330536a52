import java.io.IOException;
import java.util.List;

/** A test for each sentence of the document; each says which promise and which words it stands for. */
public final class SentenceTests {
    private SentenceTests() {
    }

    public static void main(String[] args) throws IOException {
        CoastSentences.all();
        LawSentences.all();
        LogSentences.all();
        MapSentences.all();
        RefusedSentences.all();
        List<String> amiss = Document.amiss();
        for (String row : amiss) {
            System.out.println(row);
        }
        System.out.println(Document.quotes() + " sentences quoted, " + Sentences.answersAsked() + " answers asked for, "
            + Sentences.answersWrong() + " not as due, " + amiss.size() + " quotations amiss");
        if (Sentences.answersWrong() != 0 || !amiss.isEmpty()) {
            System.exit(1);
        }
    }
}
