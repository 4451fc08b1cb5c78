import java.io.IOException;
import java.util.function.Supplier;
import java.util.function.ToLongFunction;

/** What the boundary tests share: the sentence that a test holds the class to, and calls that must be refused. */
final class Boundary {
    static final int MIN = Integer.MIN_VALUE;
    static final int MAX = Integer.MAX_VALUE;
    static final long ONE = Double.doubleToRawLongBits(1.0);
    static final long HALF = Double.doubleToRawLongBits(0.5);
    static final long WHOLE = 281474976710656L;
    /** Numbers that are none of anything; 64 and its like are 0 again to a shift that wraps. */
    static final int[] NO_NUMBER = {-1, 60, 63, 64, 128, -64, MIN, MAX};

    private final Check check = new Check("BoundaryTest");
    private final Document document;
    private String held = "no promise";
    private int heldChecks = 1;
    private int tests = 0;

    Boundary() throws IOException {
        document = new Document();
    }

    /** A new test: what is checked from here on holds the class to these sentences of the document. */
    void says(int promise, String... sentences) {
        closeTest();
        tests++;
        heldChecks = 0;
        held = "promise " + promise + ", \"" + String.join("\" \"", sentences) + "\"";
        for (String sentence : sentences) {
            check.holds("the document says, of promise " + promise + ": " + sentence, document.names(promise, sentence));
        }
    }

    private void closeTest() {
        check.holds(held + " has something checked", heldChecks > 0);
    }

    void due(String call, long got, long want) {
        heldChecks++;
        check.due(held + ": " + call, got, want);
    }

    void due(String call, boolean got, boolean want) {
        due(call, got ? 1L : 0L, want ? 1L : 0L);
    }

    void same(String what, String got, String want) {
        heldChecks++;
        check.holds(held + ": " + what + "\n  " + got + "\n  " + want, got.equals(want));
    }

    /** A call that is accepted. */
    void yes(WhereFrom x, String call, long got, long want) {
        due(call, got, want);
        due("status behind " + call, x.status(), 0);
    }

    /** A call that is refused: NONE, and why; nothing that can be told is another than without it. */
    void no(Supplier<WhereFrom> maker, String call, ToLongFunction<WhereFrom> made, int why) {
        refused(maker, call, made, -1L, why);
    }

    /** As no(), with another answer. */
    void refused(Supplier<WhereFrom> maker, String call, ToLongFunction<WhereFrom> made, long answer, int why) {
        WhereFrom x = maker.get();
        WhereFrom twin = maker.get();
        due(call, made.applyAsLong(x), answer);
        due("status behind " + call, x.status(), why);
        same("all is as it was before the refused " + call, seen(x), seen(twin));
        due("undo behind the refused " + call, x.undo(), twin.undo());
        same("undo behind the refused " + call + " takes back the act before it", seen(x), seen(twin));
    }

    void row(WhereFrom x, int i, int... values) {
        for (int k = 0; k < values.length; k++) {
            due("value(" + i + ", " + k + ")", x.value(i, k), values[k]);
        }
        due("value(" + i + ", " + values.length + ")", x.value(i, values.length), 0);
    }

    void ways(WhereFrom x, int i, long... ways) {
        due("ways(" + i + ")", x.ways(i), ways.length);
        for (int k = 0; k < ways.length; k++) {
            due("way(" + i + ", " + k + ")", x.way(i, k), ways[k]);
        }
    }

    /** All words of the document are named by a test, and all promises have one. */
    void end() {
        closeTest();
        for (int p = 0; p <= Document.PROMISES; p++) {
            check.holds("promise " + p + " has a boundary test", p == 0 || document.isTested(p));
            for (String words : document.left(p)) {
                check.holds((p == 0 ? "the terms" : "promise " + p) + ": a test names \"" + words + "\"", false);
            }
        }
        System.out.println("BoundaryTest: " + tests + " tests, each by a promise's number and the document's sentence");
        check.end();
    }

    // ---- houses to call

    /** A table of so many places with these rows, one behind the other; its BASE is question 0. */
    static WhereFrom rows(int places, int... values) {
        WhereFrom x = new WhereFrom();
        x.table(places);
        int[] v = new int[4];
        for (int k = 0; k + places <= values.length; k += places) {
            System.arraycopy(values, k, v, 0, places);
            x.fact(0, v[0], v[1], v[2], v[3]);
        }
        x.base(0);
        return x;
    }

    /** Tables of 2 and 4 places, BASE 0 and 1, CLOSE 2; two answers; one thing of each sort on the shelf. */
    static WhereFrom house() {
        WhereFrom x = new WhereFrom();
        x.table(2);
        x.table(4);
        x.fact(0, 1, 2, 0, 0);
        x.fact(0, 2, 3, 0, 0);
        x.fact(1, 5, 6, 7, 8);
        x.put(1, 1, 20);
        x.put(0, 2, HALF);
        x.drop(1, true);
        x.base(0);
        x.base(1);
        x.close(0);
        x.ask(2);
        x.lay(0, 1, 1);
        x.lay(1, 2, 2);
        x.lay(2, 3, 1);
        x.lay(3, 4, 1);
        x.ask(0);
        return x;
    }

    /** So many facts, all with one row of one place; BASE 0 has an answer with so many ways. */
    static WhereFrom likeRows(int facts) {
        return rows(1, new int[facts]);
    }

    /** So many facts with rows 0, 1, 2 ..; BASE 0 has so many answers. */
    static WhereFrom unlikeRows(int facts) {
        int[] values = new int[facts];
        for (int k = 0; k < facts; k++) {
            values[k] = k;
        }
        return rows(1, values);
    }

    /** One answer, whose one way has so many facts: the steps from 0 on, one behind the other. */
    static WhereFrom chain(int facts) {
        int[] steps = new int[2 * facts];
        for (int k = 0; k < facts; k++) {
            steps[2 * k] = k;
            steps[2 * k + 1] = k + 1;
        }
        WhereFrom x = rows(2, steps);
        int all = x.pick(0, 0, 0);
        for (int k = 1; k < facts; k++) {
            all = x.cut(x.pair(all, 0, 1, 0), 2, 0, 3, 0, 0);
        }
        x.ask(all);
        return x;
    }

    /** All that can be told of an object; of many things of a sort the first and the last ones, to stay below 512 calls. */
    static String seen(WhereFrom x) {
        StringBuilder all = new StringBuilder();
        for (int what = 0; what < 5; what++) {
            all.append(x.size(what)).append(' ');
        }
        for (int fact : ends(x.size(1))) {
            all.append("\n  fact ").append(fact).append(':');
            for (int what = 0; what <= 10; what++) {
                all.append(' ').append(x.told(fact, what));
            }
        }
        for (int question : ends(x.size(2))) {
            all.append("\n  question ").append(question).append(':');
            for (int what = 0; what < 5; what++) {
                all.append(' ').append(x.kind(question, what));
            }
        }
        for (int i : ends(x.size(3))) {
            all.append("\n  answer ").append(i).append(':');
            seenAnswer(x, i, all);
        }
        for (int k = 0; k < 20; k++) {
            seenPlace(x, k, all);
        }
        return all.toString();
    }

    private static int[] ends(int n) {
        if (n > 6) {
            return new int[] {0, 1, n - 2, n - 1};
        }
        int[] all = new int[n];
        for (int k = 0; k < n; k++) {
            all[k] = k;
        }
        return all;
    }

    private static void seenAnswer(WhereFrom x, int i, StringBuilder all) {
        for (int k = 0; k < 6; k++) {
            all.append(' ').append(x.value(i, k));
        }
        for (int k : ends(x.ways(i))) {
            all.append(" way ").append(x.way(i, k));
        }
        all.append(" weighs ").append(x.count(i)).append(' ').append(x.cost(i)).append(' ').append(x.trust(i));
        all.append(' ').append(x.stays(i)).append(' ').append(x.chance(i));
    }

    private static void seenPlace(WhereFrom x, int k, StringBuilder all) {
        int sort = x.lies(k);
        if (sort == 0) {
            return;
        }
        all.append("\n  place ").append(k).append(": sort ").append(sort);
        int most = sort > 2 ? 6 : 1;
        for (int i = 0; i < most; i++) {
            all.append(' ').append(x.taken(k, sort, i)).append(x.status() == 0 ? "" : "!");
        }
    }
}
