import java.io.IOException;
import java.nio.file.Files;
import java.nio.file.Path;
import java.util.BitSet;
import java.util.LinkedHashMap;
import java.util.Map;

/**
 * The sentences of the document, each with the answers that are due by it. A sentence is told by its words, which must
 * stand in the part of the document that is told ahead of it; no part may keep words that no test has told.
 */
final class Sentences {
    private static final Path DOCUMENT = Path.of("../shared/DOC.md");

    private final Map<String, String> parts = new LinkedHashMap<>();
    private final Map<String, BitSet> told = new LinkedHashMap<>();
    private String part = "";
    private String words = "";
    private int answersOfWords = 1;
    /** Without the document the answers alone are held against those that are due. */
    private final boolean hasDocument = Files.isReadable(DOCUMENT);
    private int sentences;
    private int answers;
    private int wrong;

    Sentences() throws IOException {
        if (!hasDocument) {
            System.out.println("no document at " + DOCUMENT + ": its words are not looked at");
            return;
        }
        String text = Files.readString(DOCUMENT).replaceAll("```(text)?", " ").replaceAll("[ \\n]+", " ");
        text = text.substring(text.indexOf("## Terms"), text.indexOf("## Not promised"));
        for (String section : text.split("## ")) {
            if (section.startsWith("Terms ")) {
                String[] terms = section.substring(6).split("==== I+\\.");
                keep("Terms I", terms[0]);
                keep("Terms II", terms[1]);
                keep("Terms III", terms[2]);
            } else if (section.startsWith("Promise ")) {
                keep(section.substring(0, section.indexOf(':')), section.substring(section.indexOf("`:") + 2));
            }
        }
    }

    private void keep(String name, String text) {
        parts.put(name, text.trim());
        told.put(name, new BitSet());
    }

    void part(String name) {
        endWords();
        part = name;
        if (hasDocument && !parts.containsKey(name)) {
            fault("no part of the document: " + name);
        }
    }

    /** What is asked from here on is due by these words. */
    void says(String newWords) {
        endWords();
        words = newWords;
        answersOfWords = 0;
        sentences++;
        if (!hasDocument) {
            return;
        }
        String text = parts.getOrDefault(part, "");
        int from = text.indexOf(newWords);
        if (from < 0) {
            fault("not in " + part + ": " + newWords);
            return;
        }
        for (; from >= 0; from = text.indexOf(newWords, from + 1)) {
            told.get(part).set(from, from + newWords.length());
        }
    }

    void is(String call, long got, long want) {
        answers++;
        answersOfWords++;
        if (got != want) {
            fault(part + " \"" + words + "\": " + call + " answered " + got + ", due is " + want);
        }
    }

    void is(String call, boolean got, boolean want) {
        is(call, got ? 1 : 0, want ? 1 : 0);
    }

    private void endWords() {
        if (answersOfWords == 0) {
            fault("nothing is asked by " + part + " \"" + words + "\"");
        }
        words = "";
        answersOfWords = 1;
    }

    private void fault(String text) {
        wrong++;
        System.out.println(text);
    }

    /** Words of the document that no test has told are faults, too. */
    void close() {
        endWords();
        for (String name : parts.keySet()) {
            StringBuilder left = new StringBuilder();
            String text = parts.get(name);
            for (int i = 0; i < text.length(); i++) {
                left.append(told.get(name).get(i) ? '\n' : text.charAt(i));
            }
            for (String span : left.toString().split("\n+")) {
                if (span.matches(".*[A-Za-z0-9].*")) {
                    fault("no test tells " + name + " \"" + span.trim() + "\"");
                }
            }
        }
        System.out.println(sentences + " sentences, " + answers + " answers, " + wrong + " not as due");
        if (wrong != 0) {
            System.exit(1);
        }
    }
}
