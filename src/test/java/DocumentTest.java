import java.io.IOException;
import java.nio.file.Files;
import java.nio.file.Path;
import java.util.LinkedHashMap;
import java.util.Map;

/**
 * The sentences that the tests quote stand in the document, and no sentence of its terms and
 * promises is without a test.
 */
public final class DocumentTest {
    private static final Path DOCUMENT = Path.of("../shared/DOC.md");

    public static void main(String[] args) throws IOException {
        Map<String, String> sections = sections(Files.readString(DOCUMENT));
        Map<String, boolean[]> quoted = new LinkedHashMap<>();
        for (Sentence sentence : SentenceTest.all()) {
            markQuoted(sections, quoted, sentence);
        }
        for (Map.Entry<String, String> section : sections.entrySet()) {
            String name = section.getKey();
            if (name.equals("Terms") || name.startsWith("Promise")) {
                dueQuoted(name, section.getValue(), quoted.get(name));
            }
        }
        Check.finish("DocumentTest");
    }

    /** The prose of each section, without the line that shows a call. */
    private static Map<String, String> sections(String document) {
        Map<String, String> sections = new LinkedHashMap<>();
        for (String part : document.split("\n## ")) {
            int end = part.indexOf('\n');
            String name = part.substring(0, end < 0 ? part.length() : end).split(":")[0].strip();
            String text = end < 0 ? "" : part.substring(end).replace("```text", "").strip();
            if (text.startsWith("`") && text.contains("`: ")) {
                text = text.substring(text.indexOf("`: ") + 3);
            }
            sections.put(name, text.replaceAll("\\s+", " "));
        }
        return sections;
    }

    private static void markQuoted(Map<String, String> sections, Map<String, boolean[]> quoted,
            Sentence sentence) {
        String text = sections.getOrDefault(sentence.section(), "");
        int at = text.indexOf(sentence.text());
        Check.due(sentence.name() + " stands in the document", at >= 0 ? 1 : 0, 1);
        boolean[] marks =
                quoted.computeIfAbsent(sentence.section(), name -> new boolean[text.length()]);
        while (at >= 0) {
            for (int i = at; i < at + sentence.text().length(); i++) {
                marks[i] = true;
            }
            at = text.indexOf(sentence.text(), at + 1);
        }
    }

    private static void dueQuoted(String name, String text, boolean[] marks) {
        StringBuilder left = new StringBuilder();
        for (int i = 0; i < text.length(); i++) {
            boolean isWritten = Character.isLetterOrDigit(text.charAt(i));
            if (isWritten && (marks == null || !marks[i])) {
                left.append(text.charAt(i));
            } else if (left.length() > 0 && left.charAt(left.length() - 1) != ' ') {
                left.append(' ');
            }
        }
        Check.dueText(name + ", words without a test", left.toString().strip(), "");
    }
}
