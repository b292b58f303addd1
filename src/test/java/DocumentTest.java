import java.io.IOException;
import java.nio.file.Files;
import java.nio.file.Path;
import java.util.ArrayList;
import java.util.LinkedHashMap;
import java.util.List;
import java.util.Map;

/** Each sentence that names a test stands in the document, and no sentence there is without one. */
public final class DocumentTest {
    private static final Path DOCUMENT = Path.of("..", "shared", "DOC.md");

    private DocumentTest() {
    }

    public static void main(String[] args) throws IOException {
        List<Sentences.Sentence> named = new ArrayList<>();
        named.addAll(ReadingSentencesTest.sentences().all());
        named.addAll(DrawingSentencesTest.sentences().all());
        named.addAll(PromiseSentencesTest.sentences().all());
        Map<String, StringBuilder> sections = sections(Files.readString(DOCUMENT));
        for (Sentences.Sentence sentence : named) {
            StringBuilder section = sections.getOrDefault(sentence.section(), new StringBuilder());
            Checks.due(sentence.section() + " has the words: " + sentence.words(),
                strikeOut(section, sentence.words()), true);
        }
        sections.forEach((name, rest) -> {
            if (name.equals("Terms") || name.startsWith("Promise ")) {
                Checks.due("words of " + name + " that no test bears", wordsOf(rest.toString()), "");
            }
        });
        Checks.end();
    }

    private static Map<String, StringBuilder> sections(String document) {
        Map<String, StringBuilder> all = new LinkedHashMap<>();
        for (String part : document.split("(?m)^## ")) {
            int end = part.indexOf('\n');
            if (end >= 0) {
                all.put(part.substring(0, end).strip(), new StringBuilder(part.substring(end).replaceAll("\\s+", " ")));
            }
        }
        return all;
    }

    /** Puts strokes over words, so that the next ones find their places unmoved. */
    private static boolean strikeOut(StringBuilder section, String words) {
        int place = section.indexOf(words);
        if (place < 0) {
            return false;
        }
        section.replace(place, place + words.length(), "|".repeat(words.length()));
        return true;
    }

    private static String wordsOf(String rest) {
        return rest.replace("```text", "").replace("```", "").replaceAll("`[^`]*`", "").replaceAll("[|:;.,\\s]+", " ").strip();
    }
}
