import java.io.IOException;
import java.nio.file.Files;
import java.nio.file.Path;
import java.util.ArrayList;
import java.util.List;

/**
 * Tests of single sentences of the document. Each names its promises and quotes the sentence, or
 * one part of it; a quotation that does not stand in the document is wrong, and so is a sentence
 * that nothing quotes.
 */
final class Sentences {
    /** Asks an object, and tells the check what it answered. */
    interface Asking {
        void ask(Check check);
    }

    private static final int PROMISES = 23;

    /** The sentences of the document in one line, without its headings and signatures. */
    private final String text;
    private final int[] begins = new int[PROMISES + 2];
    private final boolean[] quoted;
    private final boolean[] hasTest = new boolean[PROMISES + 1];
    private final Check order = new Check("Sentences");
    private final List<String> failed = new ArrayList<>();
    private int tests;
    private int answers;

    Sentences(Path document) throws IOException {
        text = sentencesOf(Files.readAllLines(document));
        quoted = new boolean[text.length()];
    }

    private String sentencesOf(List<String> lines) {
        StringBuilder all = new StringBuilder();
        boolean inFace = false;
        for (String line : lines) {
            if (line.startsWith("## Promise ")) {
                begins[Integer.parseInt(line.replaceAll("## Promise (\\d+):.*", "$1"))] = all.length();
            }
            if (line.startsWith("## Not promised")) {
                begins[PROMISES + 1] = all.length();
            }
            inFace ^= line.startsWith("```");
            boolean told = !inFace && !line.matches("```|#.*|----.*|`[^`]*\\)`");
            if (told && !line.isBlank()) {
                all.append(line.replace("`", "").trim().replaceAll("\\s+", " ")).append(' ');
            }
        }
        return all.toString();
    }

    /** A test that fails if the class does not hold the sentence, which promises have in common. */
    void test(String promises, String sentence, Asking asking) {
        String name = "promise " + promises + ", \"" + sentence + "\"";
        for (String promise : promises.split(", ")) {
            int number = Integer.parseInt(promise);
            hasTest[number] = true;
            order.holds(name + " stands in the document", quote(number, sentence));
        }
        Check check = new Check(name);
        asking.ask(check);
        tests++;
        answers += check.asked();
        if (check.wrong() > 0 || check.asked() == 0) {
            failed.add(name);
        }
    }

    /** A sentence that tells what the class is about, and no boundary case. */
    void without(int promise, String sentence) {
        order.holds("\"" + sentence + "\" stands in the document", quote(promise, sentence));
    }

    /** Finds a sentence in a promise, or in what the document tells ahead of the promises or behind them. */
    private boolean quote(int promise, String sentence) {
        int at = text.indexOf(sentence, begins[promise]);
        if (at < 0 || at + sentence.length() > begins[promise + 1]) {
            at = text.indexOf(sentence);
            boolean common = at >= 0 && (at < begins[1] || at >= begins[PROMISES + 1]);
            if (!common) {
                return false;
            }
        }
        for (int i = at; i < at + sentence.length(); i++) {
            quoted[i] = true;
        }
        return true;
    }

    private void allAreQuoted() {
        StringBuilder rest = new StringBuilder();
        for (int i = 0; i < text.length(); i++) {
            rest.append(quoted[i] ? '\n' : text.charAt(i));
        }
        for (String part : rest.toString().split("\n")) {
            order.holds("\"" + part + "\" is quoted", !part.matches(".*\\w.*"));
        }
        for (int promise = 1; promise <= PROMISES; promise++) {
            order.holds("promise " + promise + " has a test", hasTest[promise]);
        }
    }

    void end(String name) {
        allAreQuoted();
        for (String sentence : failed) {
            System.out.println("FAILED: " + sentence);
        }
        System.out.println(name + ": " + tests + " sentences with " + answers + " answers, " + failed.size() + " do not hold");
        if (!failed.isEmpty() || order.wrong() > 0 || tests == 0) {
            System.exit(1);
        }
    }
}
