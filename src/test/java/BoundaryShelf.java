/** Promises 32 to 35: what is laid on the shelf, lies there, is taken from it and copied. */
final class BoundaryShelf {
    private static final int MIN = Boundary.MIN;
    private static final int MAX = Boundary.MAX;
    private static final int[] NO_PLACE = {-1, 20, 21, 64, MIN, MAX};
    private final Boundary b;

    BoundaryShelf(Boundary b) {
        this.b = b;
    }

    void run() {
        twentyPlaces();
        layOfEverySort();
        layAsTheyAreNow();
        layOffTheShelf();
        layOfNoSuchThing();
        layOfNoSuchSort();
        whatLies();
        liesNowhere();
        takenNumbers();
        takenValuesAndWays();
        takenOffTheShelf();
        takenNoValueOrWay();
        takenForNoSort();
        takenForAnother();
        copyOverValues();
        copyWithinARow();
        copyOfNone();
        copyOffTheShelf();
        copyOfOtherThings();
        copyOfWrongNumbers();
    }

    /** The row (1, 2, 3) in place 0, (4, 5, 6) in 5, (11, 12) in 19, a fact in 1, a question in 2, sixteen ways in 4. */
    private static WhereFrom shelf() {
        WhereFrom x = new WhereFrom();
        x.table(3);
        x.table(2);
        x.table(1);
        x.fact(0, 1, 2, 3, 0);
        x.fact(0, 4, 5, 6, 0);
        x.fact(1, 11, 12, 0, 0);
        for (int k = 0; k < 16; k++) {
            x.fact(2, 1, 0, 0, 0);
        }
        x.base(0);
        x.base(1);
        x.base(2);
        x.ask(2);
        x.lay(4, 4, 0);
        x.ask(0);
        x.lay(0, 3, 0);
        x.lay(5, 3, 1);
        x.ask(1);
        x.lay(19, 3, 0);
        x.lay(1, 1, 18);
        x.lay(2, 2, 2);
        x.ask(0);
        return x;
    }

    // ---- 32: lay

    private void twentyPlaces() {
        b.says(32, "Into place k of the SHELF is laid,", "a SHELF of 20 places");
        WhereFrom x = shelf();
        for (int k = 0; k < 20; k++) {
            b.yes(x, "lay(" + k + ", 1, " + k % 19 + ")", x.lay(k, 1, k % 19), 1);
        }
        for (int k = 0; k < 20; k++) {
            b.yes(x, "taken(" + k + ", 1, 0)", x.taken(k, 1, 0), k % 19);
        }
    }

    private void layOfEverySort() {
        b.says(32, "sort 0 nothing, 1 FACT n, 2 QUESTION n, 3 the row of ANSWER n, 4 its WAYS (as they are now): 1.");
        WhereFrom x = Boundary.house();
        b.yes(x, "the last fact, over a fact", x.lay(0, 1, 2), 1);
        b.yes(x, "the last question", x.lay(1, 2, 2), 1);
        b.yes(x, "the last answer's row", x.lay(2, 3, 1), 1);
        b.yes(x, "the last answer's ways", x.lay(3, 4, 1), 1);
        for (int n : new int[] {0, -1, 99, MIN, MAX}) {
            b.yes(x, "nothing, whatever n is", x.lay(4, 0, n), 1);
            b.yes(x, "lies(4)", x.lies(4), 0);
        }
        b.yes(x, "a dropped fact", x.lay(5, 1, 1), 1);
        b.yes(x, "the first of all", x.lay(6, 1, 0), 1);
        b.due("the fact", x.taken(0, 1, 0), 2);
        b.due("the question", x.taken(1, 2, 0), 2);
        b.due("the row", x.taken(2, 3, 1), 3);
        b.due("the ways", x.taken(3, 4, 0), 2);
        b.yes(x, "nothing over a row", x.lay(2, 0, 0), 1);
        b.yes(x, "lies(2)", x.lies(2), 0);
        b.yes(x, "nothing over nothing", x.lay(2, 0, 0), 1);
    }

    private void layAsTheyAreNow() {
        b.says(32, "(as they are now)");
        WhereFrom x = Boundary.rows(2, 5, 6, 5, 6);
        x.ask(0);
        x.lay(0, 3, 0);
        x.lay(1, 4, 0);
        x.fact(0, 1, 1, 0, 0);
        x.fact(0, 5, 6, 0, 0);
        x.drop(0, true);
        b.yes(x, "the next ask()", x.ask(0), 2);
        b.due("the row as it was", x.taken(0, 3, 0), 5);
        b.due("the ways as they were", x.taken(1, 4, 1), 2);
        b.due("no third way", x.taken(1, 4, 2), -1);
        x.undo();
        x.undo();
        x.undo();
        b.due("no answers, as a fact went", x.size(3), 0);
        b.due("the row still", x.taken(0, 3, 1), 6);
        b.due("the ways still", x.taken(1, 4, 0), 1);
    }

    private void layOffTheShelf() {
        b.says(32, "NONE: 1 (place, thing);");
        for (int k : NO_PLACE) {
            for (int sort = 0; sort <= 4; sort++) {
                int of = sort;
                b.no(BoundaryShelf::shelf, "lay(" + k + ", " + sort + ", 0)", x -> x.lay(k, of, 0), 1);
            }
            b.no(BoundaryShelf::shelf, "lay(" + k + ", 5, 0): 1 is told ahead of 2", x -> x.lay(k, 5, 0), 1);
        }
    }

    private void layOfNoSuchThing() {
        b.says(32, "NONE: 1 (place, thing);");
        for (int n : Boundary.NO_NUMBER) {
            for (int sort = 1; sort <= 4; sort++) {
                int of = sort;
                b.no(Boundary::house, "lay(0, " + sort + ", " + n + ")", x -> x.lay(0, of, n), 1);
            }
        }
        b.no(Boundary::house, "fact 3, one behind the last", x -> x.lay(0, 1, 3), 1);
        b.no(Boundary::house, "question 3, one behind the last", x -> x.lay(0, 2, 3), 1);
        b.no(Boundary::house, "the row of answer 2, one behind the last", x -> x.lay(0, 3, 2), 1);
        b.no(Boundary::house, "the ways of answer 2, one behind the last", x -> x.lay(0, 4, 2), 1);
    }

    private void layOfNoSuchSort() {
        b.says(32, "2 (sort).");
        for (int sort : new int[] {-1, 5, 6, MIN, MAX}) {
            b.no(Boundary::house, "lay(0, " + sort + ", 0)", x -> x.lay(0, sort, 0), 2);
            b.no(Boundary::house, "lay(19, " + sort + ", -1)", x -> x.lay(19, sort, -1), 2);
        }
    }

    // ---- 33: lies

    private void whatLies() {
        b.says(33, "What lies in place k: the sort;");
        WhereFrom x = shelf();
        int[] due = {3, 1, 2, 0, 4, 3, 0, 0, 0, 0, 0, 0, 0, 0, 0, 0, 0, 0, 0, 3};
        for (int k = 0; k < 20; k++) {
            b.yes(x, "lies(" + k + ")", x.lies(k), due[k]);
        }
    }

    private void liesNowhere() {
        b.says(33, "NONE (1).");
        for (int k : NO_PLACE) {
            b.no(BoundaryShelf::shelf, "lies(" + k + ")", x -> x.lies(k), 1);
        }
    }

    // ---- 34: taken

    private void takenNumbers() {
        b.says(34, "Of what lies in place k, taken for a thing of a sort (1 .. 4): its number,");
        WhereFrom x = shelf();
        for (int i : new int[] {0, -1, 1, 99, MIN, MAX}) {
            b.yes(x, "the fact, whatever i is", x.taken(1, 1, i), 18);
            b.yes(x, "the question, whatever i is", x.taken(2, 2, i), 2);
        }
    }

    private void takenValuesAndWays() {
        b.says(34, "or value i of the row, or WAY i.");
        WhereFrom x = shelf();
        b.yes(x, "the first value of three", x.taken(0, 3, 0), 1);
        b.yes(x, "the last value of three", x.taken(0, 3, 2), 3);
        b.yes(x, "the first way of sixteen", x.taken(4, 4, 0), 1L << 3);
        b.yes(x, "the last way of sixteen", x.taken(4, 4, 15), 1L << 18);
        WhereFrom wide = Boundary.rows(3, MIN, -1, MAX);
        wide.ask(wide.pair(0, 0, 0, 0));
        wide.lay(0, 3, 0);
        long[] due = {MIN, -1, MAX, MIN, -1, MAX};
        for (int i = 0; i < 6; i++) {
            b.yes(wide, "value " + i + " of six", wide.taken(0, 3, i), due[i]);
        }
    }

    private void takenOffTheShelf() {
        b.says(34, "NONE: 1 (place,");
        for (int k : NO_PLACE) {
            b.no(BoundaryShelf::shelf, "taken(" + k + ", 1, 0)", x -> x.taken(k, 1, 0), 1);
            b.no(BoundaryShelf::shelf, "taken(" + k + ", 0, 0): 1 is told ahead of 2", x -> x.taken(k, 0, 0), 1);
        }
    }

    private void takenNoValueOrWay() {
        b.says(34, "also no value or WAY i);");
        for (int i : new int[] {-1, 3, 6, 64, MIN, MAX}) {
            b.no(BoundaryShelf::shelf, "value " + i + " of three", x -> x.taken(0, 3, i), 1);
        }
        for (int i : new int[] {-1, 16, 17, 64, MIN, MAX}) {
            b.no(BoundaryShelf::shelf, "way " + i + " of sixteen", x -> x.taken(4, 4, i), 1);
        }
        b.no(BoundaryShelf::shelf, "value 2 of two", x -> x.taken(19, 3, 2), 1);
    }

    private void takenForNoSort() {
        b.says(34, "2 (sort);");
        for (int sort : new int[] {0, 5, -1, MIN, MAX}) {
            for (int k = 0; k < 5; k++) {
                int at = k;
                b.no(BoundaryShelf::shelf, "taken(" + k + ", " + sort + ", 0): 2 is told ahead of 7", x -> x.taken(at, sort, 0), 2);
            }
        }
    }

    private void takenForAnother() {
        b.says(34, "7 (nothing lies there, too).", "7 another thing lies there.");
        int[] sorts = {3, 1, 2, 0, 4};
        for (int k = 0; k < 5; k++) {
            for (int sort = 1; sort <= 4; sort++) {
                int at = k;
                int of = sort;
                if (sorts[k] != sort) {
                    b.no(BoundaryShelf::shelf, "taken(" + k + ", " + sort + ", 0), where sort " + sorts[k] + " lies", x -> x.taken(at, of, 0), 7);
                }
            }
        }
        WhereFrom x = shelf();
        x.lay(0, 0, 0);
        b.due("a row that was taken off", x.taken(0, 3, 0), -1);
        b.due("its status", x.status(), 7);
    }

    // ---- 35: copy

    private void row(WhereFrom x, int k, long... due) {
        for (int i = 0; i < due.length; i++) {
            b.due("taken(" + k + ", 3, " + i + ")", x.taken(k, 3, i), due[i]);
        }
        b.due("taken(" + k + ", 3, " + due.length + ")", x.taken(k, 3, due.length), -1);
    }

    private void copyOverValues() {
        b.says(35, "n values of the row in place j, from i on, go over those of the row in place k, from m on: 1.");
        WhereFrom x = shelf();
        b.yes(x, "all three", x.copy(0, 0, 5, 0, 3), 1);
        row(x, 5, 1, 2, 3);
        b.yes(x, "the last two of three over all two", x.copy(0, 1, 19, 0, 2), 1);
        row(x, 19, 2, 3);
        b.yes(x, "the last one over the last one", x.copy(19, 1, 5, 2, 1), 1);
        row(x, 5, 1, 2, 3);
        b.yes(x, "the first one over the last one", x.copy(19, 0, 0, 2, 1), 1);
        row(x, 0, 1, 2, 2);
        b.due("the answer is as it was", x.value(0, 2), 3);
        row(x, 5, 1, 2, 3);
        WhereFrom ends = Boundary.rows(2, MIN, MAX);
        ends.ask(0);
        ends.lay(0, 3, 0);
        ends.lay(1, 3, 0);
        b.yes(ends, "MAX over MIN", ends.copy(0, 1, 1, 0, 1), 1);
        row(ends, 1, MAX, MAX);
    }

    private void copyWithinARow() {
        b.says(35, "n values of the row in place j, from i on, go over those of the row in place k, from m on: 1.");
        WhereFrom x = shelf();
        b.yes(x, "two forwards over each other", x.copy(0, 0, 0, 1, 2), 1);
        row(x, 0, 1, 1, 2);
        b.yes(x, "two backwards over each other", x.copy(5, 1, 5, 0, 2), 1);
        row(x, 5, 5, 6, 6);
        b.yes(x, "all over themselves", x.copy(19, 0, 19, 0, 2), 1);
        row(x, 19, 11, 12);
    }

    private void copyOfNone() {
        b.says(35, "n values of the row in place j, from i on, go over those of the row in place k, from m on: 1.");
        WhereFrom x = shelf();
        int acts = x.size(4);
        b.yes(x, "no values", x.copy(0, 0, 19, 0, 0), 1);
        b.yes(x, "no values, from the end of both on", x.copy(0, 3, 19, 2, 0), 1);
        b.due("both are acts", x.size(4), acts + 2);
        row(x, 0, 1, 2, 3);
        row(x, 19, 11, 12);
    }

    private void copyOffTheShelf() {
        b.says(35, "NONE: 1 (place);");
        for (int k : NO_PLACE) {
            b.no(BoundaryShelf::shelf, "copy from place " + k, x -> x.copy(k, 0, 0, 0, 1), 1);
            b.no(BoundaryShelf::shelf, "copy to place " + k, x -> x.copy(0, 0, k, 0, 1), 1);
            b.no(BoundaryShelf::shelf, "copy of a fact to place " + k + ": 1 is told ahead of 7", x -> x.copy(1, 0, k, 0, 1), 1);
            b.no(BoundaryShelf::shelf, "copy of -1 values to place " + k + ": 1 is told ahead of 2", x -> x.copy(0, 0, k, 0, -1), 1);
        }
    }

    private void copyOfOtherThings() {
        b.says(35, "7 (both must be rows of ANSWERS);");
        for (int k = 1; k <= 4; k++) {
            int at = k;
            b.no(BoundaryShelf::shelf, "copy from place " + k + ", which holds no row", x -> x.copy(at, 0, 0, 0, 1), 7);
            b.no(BoundaryShelf::shelf, "copy to place " + k + ", which holds no row", x -> x.copy(0, 0, at, 0, 1), 7);
            b.no(BoundaryShelf::shelf, "copy of place " + k + " to itself", x -> x.copy(at, 0, at, 0, 1), 7);
            b.no(BoundaryShelf::shelf, "copy of no values to place " + k, x -> x.copy(0, 0, at, 0, 0), 7);
            b.no(BoundaryShelf::shelf, "copy of -1 values to place " + k + ": 7 is told ahead of 2", x -> x.copy(0, -1, at, -1, -1), 7);
        }
    }

    private void copyOfWrongNumbers() {
        b.says(35, "2 (below 0, or not so many).");
        for (int off : new int[] {-1, MIN}) {
            b.no(BoundaryShelf::shelf, "i " + off, x -> x.copy(0, off, 19, 0, 1), 2);
            b.no(BoundaryShelf::shelf, "m " + off, x -> x.copy(0, 0, 19, off, 1), 2);
            b.no(BoundaryShelf::shelf, "n " + off, x -> x.copy(0, 0, 19, 0, off), 2);
            b.no(BoundaryShelf::shelf, "n " + off + " from the ends on", x -> x.copy(0, 3, 19, 2, off), 2);
        }
        b.no(BoundaryShelf::shelf, "three over two", x -> x.copy(0, 0, 19, 0, 3), 2);
        b.no(BoundaryShelf::shelf, "three of two", x -> x.copy(19, 0, 0, 0, 3), 2);
        b.no(BoundaryShelf::shelf, "two from the last one on", x -> x.copy(0, 2, 19, 0, 2), 2);
        b.no(BoundaryShelf::shelf, "two over the last one", x -> x.copy(0, 0, 19, 1, 2), 2);
        b.no(BoundaryShelf::shelf, "one from the end on", x -> x.copy(0, 3, 19, 0, 1), 2);
        b.no(BoundaryShelf::shelf, "one to the end", x -> x.copy(0, 0, 19, 2, 1), 2);
        b.no(BoundaryShelf::shelf, "none from behind the end on", x -> x.copy(0, 4, 19, 0, 0), 2);
        b.no(BoundaryShelf::shelf, "none to behind the end", x -> x.copy(0, 0, 19, 3, 0), 2);
        // Where i + n or m + n would wrap around to below 0.
        for (int n : new int[] {1, 2, 3, MAX}) {
            b.no(BoundaryShelf::shelf, "i MAX, n " + n, x -> x.copy(0, MAX, 5, 0, n), 2);
            b.no(BoundaryShelf::shelf, "m MAX, n " + n, x -> x.copy(0, 0, 5, MAX, n), 2);
            b.no(BoundaryShelf::shelf, "n MAX, i and m " + n, x -> x.copy(0, n, 5, n, MAX), 2);
        }
        b.no(BoundaryShelf::shelf, "n MAX", x -> x.copy(0, 0, 5, 0, MAX), 2);
        b.no(BoundaryShelf::shelf, "i MIN, n MIN, whose sum is 0", x -> x.copy(0, MIN, 5, 0, MIN), 2);
    }
}
