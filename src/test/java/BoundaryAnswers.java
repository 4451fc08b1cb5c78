/** Promises 17 to 21 and 25 to 27: the rows and the ways of answers, and what they need. */
final class BoundaryAnswers {
    private static final int MIN = Boundary.MIN;
    private static final int MAX = Boundary.MAX;
    /** Numbers of no answer of house(), which has two. */
    private static final int[] NO_ANSWER = {-1, 2, 32, 64, MIN, MAX};
    private final Boundary b;

    BoundaryAnswers(Boundary b) {
        this.b = b;
    }

    void run() {
        rowsInOrder();
        values();
        valueOfNone();
        valueBehindTheRow();
        findAsManyValues();
        findNone();
        howManyWays();
        waysOfNone();
        wayBits();
        wayOfNone();
        needed();
        needOfNone();
        staysNow();
        staysOfNone();
        howManyWithout();
        withTheseAlone();
        withOfNone();
    }

    // ---- 17: value

    private void rowsInOrder() {
        b.says(17, "rows in order, by their first values, then the second ones ..).", "Value k of ANSWER i;");
        // A difference of these values would wrap around.
        WhereFrom x = Boundary.rows(2, MAX, MIN, MIN, MAX, 0, 0, MAX, MAX, MIN, MIN, -1, MAX, 1, MIN);
        x.ask(0);
        b.row(x, 0, MIN, MIN);
        b.row(x, 1, MIN, MAX);
        b.row(x, 2, -1, MAX);
        b.row(x, 3, 0, 0);
        b.row(x, 4, 1, MIN);
        b.row(x, 5, MAX, MIN);
        b.row(x, 6, MAX, MAX);
        // Backwards by CUT, and by EITHER: in order again.
        int turned = x.cut(0, 2, 1, 0, 0, 0);
        b.yes(x, "ask of the rows turned round", x.ask(turned), 7);
        b.row(x, 0, MIN, MIN);
        b.row(x, 1, MIN, 1);
        b.row(x, 6, MAX, MAX);
        b.yes(x, "ask of both", x.ask(x.either(0, turned)), 9);
        b.row(x, 0, MIN, MIN);
        b.row(x, 1, MIN, 1);
        b.row(x, 2, MIN, MAX);
        b.row(x, 7, MAX, -1);
        b.row(x, 8, MAX, MAX);
        // The last of four values alone is another one.
        WhereFrom four = Boundary.rows(4, 1, 2, 3, MAX, 1, 2, 3, MIN);
        four.ask(0);
        b.row(four, 0, 1, 2, 3, MIN);
        b.row(four, 1, 1, 2, 3, MAX);
    }

    private void values() {
        b.says(17, "Value k of ANSWER i;");
        WhereFrom x = Boundary.rows(3, 1, 2, 3, 1, 5, 6);
        x.pair(0, 0, 0, 0);
        b.yes(x, "ask of six places", x.ask(1), 4);
        b.due("the first value of the first one", x.value(0, 0), 1);
        b.due("the sixth value of the last one", x.value(3, 5), 6);
        WhereFrom full = Boundary.unlikeRows(32);
        full.ask(0);
        b.due("the 32nd answer's", full.value(31, 0), 31);
    }

    private void valueOfNone() {
        b.says(17, "0 if there is none such.");
        WhereFrom x = Boundary.rows(3, 1, 2, 3, 4, 5, 6);
        x.pair(0, 0, 0, 0);
        b.due("value(0, 0) before any ask()", x.value(0, 0), 0);
        x.ask(1);
        for (int i : NO_ANSWER) {
            b.due("value(" + i + ", 0)", x.value(i, 0), 0);
        }
        for (int k : new int[] {-1, 6, 7, 64, MIN, MAX}) {
            b.due("value(0, " + k + ")", x.value(0, k), 0);
        }
        x.ask(x.pick(0, 0, 99));
        b.due("value(0, 0) of none", x.value(0, 0), 0);
    }

    private void valueBehindTheRow() {
        b.says(17, "0 if there is none such.");
        // What an earlier, wider row left behind is no value of this one.
        WhereFrom x = Boundary.rows(3, 1, 2, 3);
        x.pair(0, 0, 0, 0);
        x.cut(0, 1, 2, 0, 0, 0);
        x.ask(1);
        x.ask(2);
        b.row(x, 0, 3);
        for (int k = 1; k < 6; k++) {
            b.due("value(0, " + k + ") of one place", x.value(0, k), 0);
        }
    }

    // ---- 18: find

    private void findAsManyValues() {
        b.says(18, "Which ANSWER is this row (as many values as it has places): its number;");
        WhereFrom x = Boundary.unlikeRows(32);
        x.ask(0);
        b.due("the first of 32", x.find(0, MIN, MAX, 1, 2, 3), 0);
        b.due("the last of 32", x.find(31, 9, 9, 9, 9, 9), 31);
        WhereFrom six = Boundary.rows(3, 1, 2, 3, 1, 5, MIN);
        six.pair(0, 0, 0, 0);
        six.ask(1);
        b.due("six values", six.find(1, 5, MIN, 1, 2, 3), 2);
        b.due("the sixth is another one", six.find(1, 5, MIN, 1, 2, 4), -1);
        b.due("the first is another one", six.find(0, 5, MIN, 1, 2, 3), -1);
        b.due("six values", six.find(1, 5, MIN, 1, 5, MIN), 3);
        six.ask(0);
        b.due("three values, whatever stands behind them", six.find(1, 5, MIN, 1, 2, 4), 1);
    }

    private void findNone() {
        b.says(18, "NONE.");
        WhereFrom x = Boundary.rows(2, MIN, 0, 5, 5, MAX, 0);
        b.due("before any ask()", x.find(5, 5, 0, 0, 0, 0), -1);
        x.ask(0);
        b.due("below the first one", x.find(MIN, -1, 0, 0, 0, 0), -1);
        b.due("between two", x.find(5, 4, 0, 0, 0, 0), -1);
        b.due("above the last one", x.find(MAX, 1, 0, 0, 0, 0), -1);
        b.due("one that is there", x.find(MAX, 0, 0, 0, 0, 0), 2);
        x.ask(x.pick(0, 0, 99));
        b.due("among no answers", x.find(0, 0, 0, 0, 0, 0), -1);
    }

    // ---- 19: ways

    private void howManyWays() {
        b.says(19, "How many WAYS ANSWER i has;");
        WhereFrom x = Boundary.likeRows(16);
        x.fact(0, 5, 0, 0, 0);
        x.ask(0);
        b.due("as many as there may be", x.ways(0), 16);
        b.due("one", x.ways(1), 1);
    }

    private void waysOfNone() {
        b.says(19, "NONE if there is none such.");
        WhereFrom x = Boundary.house();
        for (int i : NO_ANSWER) {
            b.due("ways(" + i + ")", x.ways(i), -1);
        }
    }

    // ---- 20: way

    /** Sixty facts with rows 0 to 29, two of each: 0 and 30, 1 and 31 .. 29 and 59. */
    private static WhereFrom sixtyFacts() {
        int[] values = new int[60];
        for (int k = 0; k < 60; k++) {
            values[k] = k % 30;
        }
        WhereFrom x = Boundary.rows(1, values);
        x.ask(0);
        return x;
    }

    private void wayBits() {
        b.says(20, "WAY k of ANSWER i, its FACTS as bits (in order of these numbers);");
        WhereFrom x = sixtyFacts();
        b.ways(x, 0, 1L, 1L << 30);
        b.ways(x, 1, 2L, 1L << 31);
        b.ways(x, 2, 4L, 1L << 32);
        b.ways(x, 29, 1L << 29, 1L << 59);
        // In order of the numbers, not of the rows or facts that come first: 3, 5, 6 are unions in another order.
        WhereFrom y = Boundary.rows(2, 2, 3, 1, 2, 2, 3, 1, 2);
        y.pair(0, 0, 1, 0);
        y.ask(1);
        b.ways(y, 0, 3, 6, 9, 12);
        WhereFrom sixteen = Boundary.likeRows(16);
        sixteen.ask(0);
        b.due("the first of 16", sixteen.way(0, 0), 1);
        b.due("the last of 16", sixteen.way(0, 15), 32768);
    }

    private void wayOfNone() {
        b.says(20, "0 if there is none such.");
        WhereFrom x = sixtyFacts();
        for (int k : new int[] {-1, 2, 16, 64, MIN, MAX}) {
            b.due("way(0, " + k + ")", x.way(0, k), 0);
        }
        for (int i : new int[] {-1, 30, 32, 64, MIN, MAX}) {
            b.due("way(" + i + ", 0)", x.way(i, 0), 0);
        }
        // What an earlier answer with more ways left behind is no way of this one.
        WhereFrom y = Boundary.likeRows(16);
        y.table(1);
        y.fact(1, 3, 0, 0, 0);
        y.base(1);
        y.ask(0);
        y.ask(1);
        b.ways(y, 0, 1L << 16);
        for (int k = 1; k <= 16; k++) {
            b.due("way(0, " + k + ") of one way", y.way(0, k), 0);
        }
        WhereFrom sixteen = Boundary.likeRows(16);
        sixteen.ask(0);
        b.due("a 17th", sixteen.way(0, 16), 0);
    }

    // ---- 21: need

    private void needed() {
        b.says(21, "NEED of ANSWER i, as bits;", "LEAST, BLAME, NEED by WAYS alone.");
        WhereFrom chain = Boundary.chain(17);
        b.due("all of 17 facts, more than are weighed", chain.need(0), (1L << 17) - 1);
        WhereFrom x = sixtyFacts();
        b.due("none of two single ones", x.need(29), 0);
        // The 60th fact's bit.
        WhereFrom far = new WhereFrom();
        far.table(1);
        far.table(1);
        for (int k = 0; k < 59; k++) {
            far.fact(0, 0, 0, 0, 0);
        }
        far.fact(1, 0, 0, 0, 0);
        far.base(1);
        far.ask(0);
        b.due("the 60th fact", far.need(0), 1L << 59);
        far.drop(59, true);
        b.due("the 60th fact, dropped", far.need(0), 1L << 59);
        WhereFrom part = Boundary.rows(2, 1, 2, 1, 2, 2, 3);
        part.pair(0, 0, 1, 0);
        part.ask(1);
        b.due("the one that both ways have", part.need(0), 4);
    }

    private void needOfNone() {
        b.says(21, "0 if there is none such.");
        WhereFrom x = Boundary.house();
        for (int i : NO_ANSWER) {
            b.due("need(" + i + ")", x.need(i), 0);
        }
        b.due("need(0), which is there", x.need(0), 1);
        x.table(1);
        x.undo();
        b.due("need(0), which went with a table", x.need(0), 0);
    }

    // ---- 25: stays

    private void staysNow() {
        b.says(25, "Whether ANSWER i is TRUE with the FACTS that are DROPPED now: 1, 0;", "TRUE: whether one WAY has no FACT that is DROPPED.");
        WhereFrom x = sixtyFacts();
        b.yes(x, "no fact is dropped", x.stays(29), 1);
        x.drop(29, true);
        b.yes(x, "one way is left", x.stays(29), 1);
        x.drop(59, true);
        b.yes(x, "the 60th fact is dropped, no way is left", x.stays(29), 0);
        b.yes(x, "another answer", x.stays(27), 1);
        x.drop(29, false);
        b.yes(x, "one way is there again", x.stays(29), 1);
        x.undo();
        b.yes(x, "taken back", x.stays(29), 0);
        for (int k = 0; k < 60; k++) {
            x.drop(k, true);
        }
        for (int i = 0; i < 30; i++) {
            b.yes(x, "all facts are dropped: stays(" + i + ")", x.stays(i), 0);
        }
        WhereFrom chain = Boundary.chain(17);
        b.yes(chain, "a way of 17 facts", chain.stays(0), 1);
        chain.drop(16, true);
        b.yes(chain, "one of 17 dropped", chain.stays(0), 0);
    }

    private void staysOfNone() {
        b.says(25, "NONE (1).");
        for (int i : NO_ANSWER) {
            b.no(Boundary::house, "stays(" + i + ")", x -> x.stays(i), 1);
        }
    }

    // ---- 26: without

    private void howManyWithout() {
        b.says(26, "How many ANSWERS would not be there with the FACTS of these bits alone.");
        WhereFrom x = sixtyFacts();
        b.due("with no facts", x.without(0L), 30);
        b.due("with all bits", x.without(-1L), 0);
        b.due("with all sixty facts", x.without((1L << 60) - 1), 0);
        b.due("with bits of no facts alone", x.without(-1L << 60), 30);
        b.due("with the lower thirty", x.without((1L << 30) - 1), 0);
        b.due("with the upper thirty", x.without((1L << 60) - (1L << 30)), 0);
        b.due("with the last fact alone", x.without(1L << 59), 29);
        b.due("with the first fact alone", x.without(1L), 29);
        b.due("with both of one row", x.without(1L | 1L << 30), 29);
        x.drop(0, true);
        x.drop(30, true);
        b.due("with all bits, dropped ones too", x.without(-1L), 0);
        WhereFrom none = new WhereFrom();
        b.due("of no answers", none.without(0L), 0);
        WhereFrom full = Boundary.unlikeRows(32);
        full.ask(0);
        b.due("of 32 answers", full.without(0L), 32);
    }

    // ---- 27: with

    private void withTheseAlone() {
        b.says(27, "Whether ANSWER i would be there with the FACTS of these bits alone: 1, 0;");
        WhereFrom x = sixtyFacts();
        b.yes(x, "no facts", x.with(29, 0L), 0);
        b.yes(x, "all bits", x.with(29, -1L), 1);
        b.yes(x, "the last fact", x.with(29, 1L << 59), 1);
        b.yes(x, "all but the two", x.with(29, ~(1L << 59 | 1L << 29)), 0);
        b.yes(x, "bits of no facts", x.with(29, -1L << 60), 0);
        x.drop(59, true);
        b.yes(x, "a dropped fact", x.with(29, 1L << 59), 1);
        WhereFrom chain = Boundary.chain(17);
        b.yes(chain, "all 17", chain.with(0, (1L << 17) - 1), 1);
        b.yes(chain, "all but one", chain.with(0, (1L << 17) - 2), 0);
    }

    private void withOfNone() {
        b.says(27, "NONE (1).");
        for (int i : NO_ANSWER) {
            b.no(Boundary::house, "with(" + i + ", -1)", x -> x.with(i, -1L), 1);
            b.no(Boundary::house, "with(" + i + ", 0)", x -> x.with(i, 0L), 1);
        }
    }
}
