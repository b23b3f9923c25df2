import java.io.IOException;
import java.io.UncheckedIOException;
import java.nio.file.Files;
import java.nio.file.Path;
import java.util.ArrayList;
import java.util.List;
import java.util.TreeSet;

/**
 * Names the sentence of the document that a test is of. Its words must stand in the part of the
 * document that is told, each sentence has one test alone, and each test asks something.
 */
final class Sentences {
    private static final String[] ENDS = {
        "======== ", "Said once more", "Answers of several refusals", "Ahead of the calls", "## "};

    private final Check c = new Check();
    private final String document;
    private final TreeSet<String> told = new TreeSet<>();
    private final List<String> parts = new ArrayList<>();
    private String part = "";
    private String text = "";
    private String words = "";
    private int asked = 1;

    Sentences() {
        try {
            String all = Files.readString(Path.of("../shared/DOC.md"));
            document = all.replaceAll("\\s+", " ");
        } catch (IOException e) {
            throw new UncheckedIOException(e);
        }
    }

    /** The sentences that follow stand behind this heading, ahead of the next one. */
    void in(String heading) {
        int start = document.indexOf(heading);
        c.due("the document has a part " + heading, start >= 0 ? 1 : 0, 1);
        start = Math.max(0, start);
        int end = document.length();
        for (String next : ENDS) {
            int at = document.indexOf(next, start + heading.length());
            end = at >= 0 ? Math.min(end, at) : end;
        }
        part = heading;
        text = document.substring(start, end);
        parts.add(heading);
    }

    /** The test that follows is of a sentence with these words. */
    void says(String wordsOfIt) {
        c.due("answers asked for: " + words, asked > 0 ? 1 : 0, 1);
        words = wordsOfIt;
        asked = 0;
        c.due(part + " says: " + words, text.contains(words) ? 1 : 0, 1);
        c.due("a test of its own: " + words, told.add(part + words) ? 1 : 0, 1);
    }

    void due(String call, long answered, long want) {
        asked++;
        c.due("[" + part + ": " + words + "] " + call, answered, want);
    }

    void dueThrow(BothPrices x, int d, int i, int want) {
        due("element(" + d + ", " + i + ") throws", Check.thrown(x, d, i), want);
    }

    /** How many parts were gone through. */
    int parts() {
        return parts.size();
    }

    void end() {
        says("");
        System.out.print(told.size() - 1 + " sentences: ");
        c.end();
    }
}
