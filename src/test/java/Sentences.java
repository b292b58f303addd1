import java.util.ArrayList;
import java.util.List;

/** Tests that bear a sentence of the document, in its own words, as their name. */
final class Sentences {
    /** A sentence, or a part of one, of a section of the document, and its test. */
    record Sentence(String section, String words, Runnable test) {
    }

    private final List<Sentence> all = new ArrayList<>();
    private String section = "";

    Sentences in(String name) {
        section = name;
        return this;
    }

    Sentences holds(String words, Runnable test) {
        all.add(new Sentence(section, words, test));
        return this;
    }

    List<Sentence> all() {
        return all;
    }

    void run() {
        for (Sentence sentence : all) {
            Checks.about(sentence.section() + ": \"" + sentence.words() + "\": ");
            int before = Checks.done();
            try {
                sentence.test().run();
            } catch (RuntimeException | AssertionError thrown) {
                Checks.due("the test", thrown.toString(), "no exception");
            }
            Checks.due("the test looks at answers", Checks.done() > before, true);
        }
        Checks.about("");
    }
}
