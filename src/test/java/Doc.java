import java.io.IOException;
import java.nio.file.Files;
import java.nio.file.Path;

/** The document's promises, and which of their sentences the tests of edges have named. */
final class Doc {
    static final int PROMISES = 55;

    private static final String TEXT = read();
    private static final int[] BEGINS = beginnings();
    private static final boolean[] NAMED = new boolean[TEXT.length()];
    private static final boolean[] HAS_EDGES = new boolean[PROMISES + 1];

    private Doc() {
    }

    /** From its terms to what is not promised; what stands in code is text like the rest. */
    private static String read() {
        try {
            String all = Files.readString(Path.of("../shared/DOC.md")).replace("```text", " ").replace("```", " ");
            String promised = all.substring(all.indexOf("## Terms"), all.indexOf("## Not promised"));
            return promised.replaceAll("\\s+", " ");
        } catch (IOException e) {
            throw new IllegalStateException("../shared/DOC.md can't be read", e);
        }
    }

    /** Where each promise's own part begins; part 0 are the terms, behind the last is the end. */
    private static int[] beginnings() {
        int[] begins = new int[PROMISES + 2];
        for (int promise = 1; promise <= PROMISES; promise++) {
            begins[promise] = TEXT.indexOf("## Promise " + promise + ": ");
        }
        begins[PROMISES + 1] = TEXT.length();
        return begins;
    }

    /** Marks a sentence (or a part of one) of a promise, or of the terms that it uses; false if there is none such. */
    static boolean name(int promise, String sentence) {
        HAS_EDGES[promise] = true;
        return mark(BEGINS[promise], BEGINS[promise + 1], sentence) || mark(0, BEGINS[1], sentence);
    }

    private static boolean mark(int from, int to, String sentence) {
        int at = TEXT.indexOf(sentence, from);
        if (at < 0 || at + sentence.length() > to) {
            return false;
        }
        for (int i = at; i < at + sentence.length(); i++) {
            NAMED[i] = true;
        }
        return true;
    }

    /** What no test has named, but for headings, signatures and what tells the parts of the face. */
    static String leftOut() {
        StringBuilder left = new StringBuilder();
        for (int i = 0; i < TEXT.length(); i++) {
            left.append(NAMED[i] ? '|' : TEXT.charAt(i));
        }
        return left.toString().replaceAll("\\|+", "|")
                .replaceAll("## Promise \\d+: (A new object|\\w+) `[^`]*`:", "")
                .replaceAll("Ahead of the calls [^|#]*?the interface says: ---- [^.]*\\.", "")
                .replaceAll("## Terms|==== \\d\\.", "")
                .replaceAll("[^\\w]*\\|[^\\w]*", "|")
                .replaceAll("\\|+", "|");
    }

    static boolean hasEdges(int promise) {
        return HAS_EDGES[promise];
    }
}
