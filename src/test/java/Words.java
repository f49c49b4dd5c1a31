import java.io.IOException;
import java.nio.charset.StandardCharsets;
import java.nio.file.Files;
import java.nio.file.Path;
import java.util.ArrayList;
import java.util.List;

/** The words of the document that the tests hold: which, of which promise or term. */
final class Words {
    private static final Path DOCUMENT = Path.of("..", "shared", "DOC.md");
    private static final int PROMISES = 35;
    private static final int TERMS = 5;
    private static final List<String> sections = new ArrayList<>();
    private static final List<String> held = new ArrayList<>();

    private Words() {
    }

    /** From here on, answers that are due are due by these words of a promise. */
    static void promise(int number, String words) {
        begin("Promise " + number, words);
    }

    /** From here on, answers that are due are due by these words of a term. */
    static void term(int number, String words) {
        begin("Term " + number, words);
    }

    private static void begin(String section, String words) {
        sections.add(section);
        held.add(words);
        Check.heading = section + ", '" + words + "': ";
    }

    /** Each promise and each term is due to have words, and the words to be the document's own. */
    static void finish() {
        Check.heading = "";
        for (int number = 1; number <= PROMISES; number++) {
            Check.due("promise " + number + " has a test of its own", sections.contains("Promise " + number), true);
        }
        for (int number = 1; number <= TERMS; number++) {
            Check.due("term " + number + " has a test of its own", sections.contains("Term " + number), true);
        }
        String document = document();
        for (int k = 0; k < held.size(); k++) {
            boolean found = sectionOf(document, sections.get(k)).contains(held.get(k));
            Check.due(sections.get(k) + " says '" + held.get(k) + "'", found, true);
        }
        noWordWithoutTest("Term 1", document);
        for (int number = 1; number <= PROMISES; number++) {
            noWordWithoutTest("Promise " + number, document);
        }
        System.out.println(held.size() + " sentences of the document, no word of it without one");
    }

    /** All terms are one part of the document here; a promise's face is held by RulesTest. */
    private static void noWordWithoutTest(String section, String document) {
        String text = sectionOf(document, section);
        boolean promise = section.startsWith("Promise");
        StringBuilder left = new StringBuilder(promise ? text.substring(text.indexOf("`: ") + 3) : text);
        for (int k = 0; k < held.size(); k++) {
            boolean here = promise ? sections.get(k).equals(section) : sections.get(k).startsWith("Term");
            for (int at = text.indexOf(held.get(k)); here && at >= 0; at = text.indexOf(held.get(k), at + 1)) {
                int from = at - (text.length() - left.length());
                for (int i = Math.max(0, from); i < from + held.get(k).length(); i++) {
                    left.setCharAt(i, ' ');
                }
            }
        }
        String words = left.toString().replaceAll("```text|\\b[1-5]\\. ", " ").replaceAll("[^A-Za-z0-9]+", " ").trim();
        Check.due(section + " has words without a test: " + words, words.isEmpty(), true);
    }

    private static String document() {
        try {
            return Files.readString(DOCUMENT, StandardCharsets.UTF_8).replaceAll("\\s+", " ") + " ## ";
        } catch (IOException e) {
            throw new IllegalStateException("no document at " + DOCUMENT, e);
        }
    }

    private static String sectionOf(String document, String section) {
        String first = section.startsWith("Promise") ? "## " + section + ":" : "## Terms";
        int from = document.indexOf(first);
        if (from < 0) {
            return "";
        }
        String rest = document.substring(from + first.length());
        return rest.substring(0, rest.indexOf("## "));
    }
}
