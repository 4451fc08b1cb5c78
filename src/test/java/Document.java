import java.io.IOException;
import java.nio.file.Files;
import java.nio.file.Path;
import java.util.ArrayList;
import java.util.List;
import java.util.regex.Matcher;
import java.util.regex.Pattern;

/** The document's own words, by promise, and which of them a test has named. */
final class Document {
    static final int PROMISES = 38;
    private static final Path FILE = Path.of("../shared/DOC.md");
    /** What opens a part of the Terms, and says nothing by itself. */
    private static final List<String> OPENINGS = List.of("I. BOUNDS.", "II.", "III.", "IV.", "The constants: `NONE = -1`:",
        "Ahead of the calls [^:]* the interface says: ---- (facts|the shelf)\\.", "Ahead of the calls [^:]* the interface says: ----",
        "```text", "```");

    private final String[] said = new String[PROMISES + 1];
    private final boolean[][] named = new boolean[PROMISES + 1][];
    private final boolean[] tested = new boolean[PROMISES + 1];

    /** Number 0 holds what stands before the promises: what it is, and the terms. */
    Document() throws IOException {
        String all = Files.readString(FILE);
        said[0] = plain(between(all, "## What it is", "## The public face") + " " + between(all, "## Terms", "## Promise 1:"));
        for (int p = 1; p <= PROMISES; p++) {
            String end = p < PROMISES ? "## Promise " + (p + 1) + ":" : "## Not promised";
            said[p] = plain(between(all, "## Promise " + p + ":", end).replaceFirst("(?s)^.*?\n\n`[^`]*`:", ""));
        }
        for (int p = 0; p <= PROMISES; p++) {
            named[p] = new boolean[said[p].length()];
        }
    }

    private static String between(String all, String from, String to) {
        int start = all.indexOf(from);
        int end = all.indexOf(to, start + 1);
        if (start < 0 || end < 0) {
            throw new IllegalStateException("the document has no part from " + from + " to " + to);
        }
        return all.substring(start + from.length(), end);
    }

    private static String plain(String text) {
        return text.replaceAll("\\s+", " ").trim();
    }

    /** Whether the document says this under the promise, or in its terms; it is taken as named then. */
    boolean names(int promise, String sentence) {
        tested[promise] = true;
        return mark(promise, sentence) | mark(0, sentence);
    }

    private boolean mark(int part, String sentence) {
        boolean found = false;
        for (int at = said[part].indexOf(sentence); at >= 0; at = said[part].indexOf(sentence, at + 1)) {
            markFrom(part, at, sentence.length());
            found = true;
        }
        return found;
    }

    private void markFrom(int part, int at, int length) {
        for (int k = 0; k < length; k++) {
            named[part][at + k] = true;
        }
    }

    boolean isTested(int promise) {
        return tested[promise];
    }

    /** The words of a part that no test has named. */
    List<String> left(int part) {
        if (part == 0) {
            for (String opening : OPENINGS) {
                Matcher found = Pattern.compile(opening.contains("[") ? opening : Pattern.quote(opening)).matcher(said[0]);
                while (found.find()) {
                    markFrom(0, found.start(), found.end() - found.start());
                }
            }
        }
        List<String> left = new ArrayList<>();
        StringBuilder words = new StringBuilder();
        for (int k = 0; k <= said[part].length(); k++) {
            if (k < said[part].length() && !named[part][k]) {
                words.append(said[part].charAt(k));
            } else if (words.length() > 0) {
                if (Pattern.compile("\\w").matcher(words).find()) {
                    left.add(words.toString());
                }
                words.setLength(0);
            }
        }
        return left;
    }
}
