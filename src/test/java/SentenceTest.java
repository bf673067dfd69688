import java.util.ArrayList;
import java.util.List;

/** Each sentence of the document holds: its boundary cases, one test for each. */
public final class SentenceTest {
    public static void main(String[] args) {
        for (Sentence sentence : all()) {
            Check.test(sentence.name(), sentence.test());
        }
        Check.finish("SentenceTest");
    }

    static List<Sentence> all() {
        List<Sentence> all = new ArrayList<>();
        all.addAll(ThingsSentences.all());
        all.addAll(WrittenSentences.all());
        all.addAll(StepAndStartSentences.all());
        all.addAll(UseSentences.all());
        all.addAll(SplitAndRejoinSentences.all());
        all.addAll(LookSentences.all());
        all.addAll(PowerSentences.all());
        return all;
    }
}
