import java.io.IOException;
import java.nio.file.Files;
import java.nio.file.Path;
import java.util.LinkedHashMap;
import java.util.Map;

/** The document, sentence by sentence, and how many answers were compared under each sentence. */
final class Document {
    private static final Path PLACE = Path.of("../shared/DOC.md");
    // what only leads in, or tells how the interface file looks: no call can break it
    private static final String[] SAY_NOTHING_TO_TEST = {
        "A library of sets of small numbers that keeps", "Neighbours are found by the tree,",
        "The calls put numbers in and take them out,", "Ahead of the calls ",
    };

    private final Check check;
    private final Map<String, Integer> compared = new LinkedHashMap<>();

    Document(Check check) {
        this.check = check;
        readSentences();
    }

    /** Tests the sentence of the section; what the test throws is told with the sentence too. */
    void says(String section, String sentence, Runnable test) {
        String key = section + ": " + sentence;
        check.under(key);
        check.same("the document says it", compared.containsKey(key), true);
        int comparedBefore = check.compared();
        try {
            test.run();
        } catch (RuntimeException e) {
            check.same("the test of it threw", e.toString(), "nothing");
        }
        compared.merge(key, check.compared() - comparedBefore, Integer::sum);
    }

    /** Tells every sentence that no test was written for. */
    void end() {
        check.under("the whole document");
        check.same("sentences were read", compared.size() > 150, true);
        for (Map.Entry<String, Integer> entry : compared.entrySet()) {
            check.same("tested: " + entry.getKey(), entry.getValue() > 0, true);
        }
    }

    private void readSentences() {
        String section = "";
        for (String line : lines()) {
            if (line.startsWith("## ")) {
                section = line.substring(3).replaceAll(":.*", "");
            } else if (section.equals("Terms") || section.equals("What it is") || section.startsWith("Promise ")) {
                readLine(section, line);
            }
        }
    }

    private void readLine(String section, String line) {
        // neither the dash of a list nor the signature of a call belongs to the sentence
        String text = line.trim().replaceAll("^- ", "").replaceAll("^`[^`]*\\([^`]*`: ", "");
        for (String sentence : text.split("(?<=\\.) |(?<=\\.\\)) ")) {
            if (sentence.contains(" ") && !saysNothingToTest(sentence)) {
                compared.put(section + ": " + sentence, 0);
            }
        }
    }

    private static boolean saysNothingToTest(String sentence) {
        for (String start : SAY_NOTHING_TO_TEST) {
            if (sentence.startsWith(start)) {
                return true;
            }
        }
        return false;
    }

    private static Iterable<String> lines() {
        try {
            return Files.readAllLines(PLACE);
        } catch (IOException e) {
            throw new IllegalStateException("no " + PLACE, e);
        }
    }
}
