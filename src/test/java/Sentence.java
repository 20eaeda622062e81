import java.io.IOException;
import java.nio.file.Files;
import java.nio.file.Path;
import java.util.ArrayList;
import java.util.List;
import java.util.regex.Matcher;
import java.util.regex.Pattern;

/**
 * The sentence of the document that a boundary test is about, and the promise at which it is seen. At the end it holds
 * all sentences against the document: each stands there, and no words that name a boundary are without a test.
 */
final class Sentence {
    /** Words by which the document names a boundary: bounds, what is empty or full, what goes round, what is refused. */
    private static final Pattern MARKS = Pattern.compile(
        "\\d \\.\\. ?\\d*|at most|at the least|one at least|none or more|or more|fewer than|more than|NONE|HIDDEN:|HIDDEN for"
        + "|False:|-2:|NoSuchElementException:|\\((none|None)|none at first|0 at first|at first\\.|behind the last one"
        + "|modulo|\\bcut\\b|going round|without sign|by 0 gives|0 without|within -|held within|the latest \\d+|not UNDONE"
        + "|out of bounds|no such|beyond|above|too short|too few|less LEFT|there are 40|full\\b|No GREEN|no GREEN|no IMAGE"
        + "|of several|is gone|left out|empty then|that is not there|up to|the lowest|the highest|never|nothing fits"
        + "|third digit|second s|eighth d|digit 0 or 1|fourth|seventh|letter that was there|there are ten|is refused");

    private static final int PROMISES = 42;
    private static final List<String> TOLD = new ArrayList<>();
    private static final List<Integer> PROMISE_OF = new ArrayList<>();
    private static final boolean[] NAMED = new boolean[PROMISES + 1];
    private static String label = "";

    private Sentence() {
    }

    /** What is due from here on is due by these words of the document. */
    static void says(int promise, String words) {
        label = "promise " + promise + " '" + words + "': ";
        Check.due(label + "there is such a promise", true, promise >= 1 && promise <= PROMISES);
        NAMED[promise] = true;
        TOLD.add(words);
        PROMISE_OF.add(promise);
    }

    static void due(String call, long want, long got) {
        Check.due(label + call, want, got);
    }

    static void due(String call, boolean want, boolean got) {
        Check.due(label + call, want, got);
    }

    static void due(String call, String want, String got) {
        Check.due(label + call + "\n  due is " + want + "\n  but is " + got + "\n ", true, want.equals(got));
    }

    /** Holds all that was told against the document. */
    static void holdAgainstDocument() throws IOException {
        for (int promise = 1; promise <= PROMISES; promise++) {
            Check.due("promise " + promise + " has a boundary test", true, NAMED[promise]);
        }
        Path file = Path.of(System.getProperty("ribbonpole.root", "."), "../shared/DOC.md");
        if (!Files.isReadable(file)) {
            System.out.println("the sentences are not held against the document: it is not at " + file);
            return;
        }
        String document = plain(Files.readString(file));
        boolean[] covered = new boolean[document.length()];
        for (int i = 0; i < TOLD.size(); i++) {
            boolean found = cover(document, PROMISE_OF.get(i), plain(TOLD.get(i)), covered);
            Check.due("promise " + PROMISE_OF.get(i) + " or the terms say '" + TOLD.get(i) + "'", true, found);
        }
        int from = document.indexOf("## Terms");
        int to = document.indexOf("## Not promised");
        Matcher marks = MARKS.matcher(document).region(Math.max(0, from), to < 0 ? document.length() : to);
        while (marks.find()) {
            String around = document.substring(Math.max(0, marks.start() - 40), Math.min(document.length(), marks.end() + 40));
            Check.due("a test of '" + marks.group() + "' in '" + around + "'", true, covered[marks.start()]);
        }
    }

    private static String plain(String text) {
        return text.replace("```text", " ").replace("`", " ").replace("=", " = ").replaceAll("\\s+", " ");
    }

    /** Marks where the words stand, in the promise's own section or else in the terms; false, if they stand nowhere. */
    private static boolean cover(String document, int promise, String words, boolean[] covered) {
        int from = document.indexOf("## Promise " + promise + ":");
        int to = document.indexOf("## ", from + 1);
        int terms = document.indexOf("## Terms");
        return coverWithin(document, from, to, words, covered)
            || coverWithin(document, terms, document.indexOf("## Promise 1:"), words, covered);
    }

    private static boolean coverWithin(String document, int from, int to, String words, boolean[] covered) {
        boolean found = false;
        for (int at = document.indexOf(words, from); at >= 0 && at < to; at = document.indexOf(words, at + 1)) {
            found = true;
            for (int i = at; i < at + words.length(); i++) {
                covered[i] = true;
            }
        }
        return found;
    }
}
