import java.io.IOException;
import java.nio.file.Path;

/** All promises: for each sentence of the document a test of its own, the boundary cases first of all. */
public final class SentencesTest {
    public static void main(String[] args) throws IOException {
        Sentences sentences = new Sentences(Path.of("../shared/DOC.md"));
        TermsSentences.tell(sentences);
        InstructionSentences.tell(sentences);
        BuildingSentences.tell(sentences);
        RunningSentences.tell(sentences);
        AnswerSentences.tell(sentences);
        UnseenSentences.tell(sentences);
        sentences.dueAllTested();
        Checks.end();
    }
}
