/** Promises 1 to 6: a new object, tables, facts and their weights. */
final class BoundaryFacts {
    private static final int MIN = Boundary.MIN;
    private static final int MAX = Boundary.MAX;
    private static final long ONE = Boundary.ONE;
    private final Boundary b;

    BoundaryFacts(Boundary b) {
        this.b = b;
    }

    void run() {
        nothingIsTold();
        nothingIsRefused();
        nothingIsShared();
        fiveHundredAndTwelveCalls();
        placesOfATable();
        tooFewOrTooManyPlaces();
        tenTables();
        valuesAsManyAsPlaces();
        wholesOfAllSizes();
        likeRows();
        factOfNoTable();
        sixtyFacts();
        weightsAtFirst();
        droppedOrNoMore();
        dropOfNoFact();
        counts();
        costs();
        trusts();
        chances();
        putOfNoSuchWeight();
        putOfNoFact();
        toldOfAFact();
        toldOfNoneSuch();
    }

    // ---- 1: a new object

    private void nothingIsTold() {
        b.says(1, "Nothing is there.");
        WhereFrom x = new WhereFrom();
        b.due("status()", x.status(), 0);
        for (int what = 0; what < 5; what++) {
            b.due("size(" + what + ")", x.size(what), 0);
        }
        for (int k = 0; k < 20; k++) {
            b.yes(x, "lies(" + k + ")", x.lies(k), 0);
        }
        b.due("told(0, 0)", x.told(0, 0), -1);
        b.due("kind(0, 0)", x.kind(0, 0), -1);
        b.due("value(0, 0)", x.value(0, 0), 0);
        b.due("find(0, 0, 0, 0, 0, 0)", x.find(0, 0, 0, 0, 0, 0), -1);
        b.due("ways(0)", x.ways(0), -1);
        b.due("way(0, 0)", x.way(0, 0), 0);
        b.due("need(0)", x.need(0), 0);
        b.due("without(0)", x.without(0L), 0);
        b.due("undo()", x.undo(), 0);
        b.due("status() behind all of them", x.status(), 0);
    }

    private void nothingIsRefused() {
        b.says(1, "Nothing is there.", "There is none; refused.");
        b.no(WhereFrom::new, "fact", x -> x.fact(0, 0, 0, 0, 0), 1);
        b.refused(WhereFrom::new, "drop", x -> x.drop(0, true) ? 1 : 0, 0, 1);
        b.refused(WhereFrom::new, "put", x -> x.put(0, 0, 0) ? 1 : 0, 0, 1);
        b.no(WhereFrom::new, "base", x -> x.base(0), 1);
        b.no(WhereFrom::new, "pick", x -> x.pick(0, 0, 0), 1);
        b.no(WhereFrom::new, "like", x -> x.like(0, 0, 0), 1);
        b.no(WhereFrom::new, "cut", x -> x.cut(0, 1, 0, 0, 0, 0), 1);
        b.no(WhereFrom::new, "pair", x -> x.pair(0, 0, 0, 0), 1);
        b.no(WhereFrom::new, "either", x -> x.either(0, 0), 1);
        b.no(WhereFrom::new, "close", x -> x.close(0), 1);
        b.no(WhereFrom::new, "most", x -> x.most(0, 0), 1);
        b.no(WhereFrom::new, "ask", x -> x.ask(0), 1);
        b.refused(WhereFrom::new, "count", x -> x.count(0), 0, 1);
        b.no(WhereFrom::new, "cost", x -> x.cost(0), 1);
        b.no(WhereFrom::new, "trust", x -> x.trust(0), 1);
        b.no(WhereFrom::new, "stays", x -> x.stays(0), 1);
        b.no(WhereFrom::new, "with", x -> x.with(0, -1L), 1);
        b.no(WhereFrom::new, "chance", x -> x.chance(0), 1);
        b.no(WhereFrom::new, "share", x -> x.share(0, 0), 1);
        b.no(WhereFrom::new, "least", x -> x.least(0), 1);
        b.no(WhereFrom::new, "blame", x -> x.blame(0, 0), 1);
        for (int sort = 1; sort <= 4; sort++) {
            int of = sort;
            b.no(WhereFrom::new, "lay of sort " + sort, x -> x.lay(0, of, 0), 1);
            b.no(WhereFrom::new, "taken for sort " + sort, x -> x.taken(0, of, 0), 7);
        }
        b.no(WhereFrom::new, "copy", x -> x.copy(0, 0, 1, 0, 0), 7);
    }

    private void nothingIsShared() {
        b.says(1, "Nothing is there.");
        WhereFrom full = Boundary.house();
        b.same("a new object beside a full one", Boundary.seen(new WhereFrom()), "0 0 0 0 0 ");
        b.due("the full one's facts", full.size(1), 3);
    }

    private void fiveHundredAndTwelveCalls() {
        b.says(1, "A house that tells where answers come from: facts in tables, questions built of one another, each answer with all the least sets"
            + " of facts that make it; facts weighed by count, cost, trust, truth and chance; what is needed, what would take an answer away, who is"
            + " to blame for it; a shelf for things of every kind; all taken back.",
            "An object is used for at most 512 calls after it has been made; what later calls answer is free.");
        WhereFrom x = new WhereFrom();
        x.table(1);
        x.fact(0, 7, 0, 0, 0);
        x.base(0);
        for (int call = 4; call <= 510; call++) {
            x.put(0, 1, call);
        }
        b.due("the 511th call, ask(0)", x.ask(0), 1);
        b.due("the 512th call, cost(0)", x.cost(0), 510);
    }

    // ---- 2: table

    private void placesOfATable() {
        b.says(2, "A new TABLE of so many places: its number.", "of 1 to 4 places");
        WhereFrom x = new WhereFrom();
        for (int places = 1; places <= 4; places++) {
            b.yes(x, "table(" + places + ")", x.table(places), places - 1);
            x.fact(places - 1, 0, 0, 0, 0);
            b.due("places of table " + (places - 1), x.told(places - 1, 6), places);
        }
    }

    private void tooFewOrTooManyPlaces() {
        b.says(2, "NONE: 2; 4.", "of 1 to 4 places");
        for (int places : new int[] {0, 5, 6, -1, -4, MIN, MAX}) {
            b.no(Boundary::house, "table(" + places + ")", x -> x.table(places), 2);
        }
    }

    private static WhereFrom tenTablesHouse() {
        WhereFrom x = new WhereFrom();
        for (int k = 0; k < 10; k++) {
            x.table(k % 4 + 1);
        }
        return x;
    }

    private void tenTables() {
        b.says(2, "NONE: 2; 4.", "TABLES 10");
        WhereFrom x = new WhereFrom();
        for (int k = 0; k < 10; k++) {
            b.yes(x, "table number " + k, x.table(k % 4 + 1), k);
        }
        b.no(BoundaryFacts::tenTablesHouse, "an eleventh table", y -> y.table(1), 4);
        b.no(BoundaryFacts::tenTablesHouse, "an eleventh table of no places: 2 is told ahead of 4", y -> y.table(0), 2);
        b.no(BoundaryFacts::tenTablesHouse, "an eleventh table of five places", y -> y.table(5), 2);
        x.undo();
        b.yes(x, "a tenth table behind undo()", x.table(4), 9);
        b.yes(x, "a fact of the tenth table", x.fact(9, 1, 2, 3, 4), 0);
        b.due("the tenth table has the later one's places", x.told(0, 6), 4);
    }

    // ---- 3: fact

    private void valuesAsManyAsPlaces() {
        b.says(3, "A new FACT of a TABLE (of the values as many as it has places): its number.");
        WhereFrom x = new WhereFrom();
        for (int places = 1; places <= 4; places++) {
            x.table(places);
            b.yes(x, "fact of " + places + " places", x.fact(places - 1, 5, 6, 7, 8), places - 1);
            for (int k = 0; k < 4; k++) {
                b.due("value " + k + " of " + places, x.told(places - 1, 7 + k), k < places ? 5 + k : -1);
            }
        }
        // What stands behind the places makes no other row.
        WhereFrom y = new WhereFrom();
        y.table(2);
        y.fact(0, 1, 2, 3, 4);
        y.fact(0, 1, 2, MIN, MAX);
        y.base(0);
        b.yes(y, "ask of two facts that are alike in two places", y.ask(0), 1);
    }

    private void wholesOfAllSizes() {
        b.says(3, "A new FACT of a TABLE (of the values as many as it has places): its number.", "FACTS are rows of wholes (ints) in TABLES, each with weights:");
        WhereFrom x = Boundary.rows(4, MIN, MAX, 0, -1);
        int[] due = {MIN, MAX, 0, -1};
        for (int k = 0; k < 4; k++) {
            b.due("told(0, " + (7 + k) + ")", x.told(0, 7 + k), due[k]);
        }
        b.yes(x, "ask(0)", x.ask(0), 1);
        b.row(x, 0, due);
    }

    private void likeRows() {
        b.says(3, "A new FACT of a TABLE (of the values as many as it has places): its number.", "Two FACTS of one TABLE may have like rows.");
        WhereFrom x = Boundary.rows(2, 1, 2, 1, 2);
        b.due("facts", x.size(1), 2);
        b.yes(x, "ask(0)", x.ask(0), 1);
        b.ways(x, 0, 1, 2);
    }

    private void factOfNoTable() {
        b.says(3, "NONE: 1; 4.");
        for (int table : new int[] {-1, 2, 10, MIN, MAX}) {
            b.no(Boundary::house, "fact of table " + table, x -> x.fact(table, 0, 0, 0, 0), 1);
        }
    }

    private static WhereFrom sixtyFactsHouse() {
        WhereFrom x = new WhereFrom();
        x.table(1);
        x.table(4);
        for (int k = 0; k < 60; k++) {
            x.fact(k % 2, k, k, k, k);
        }
        return x;
    }

    private void sixtyFacts() {
        b.says(3, "NONE: 1; 4.", "FACTS 60");
        WhereFrom x = new WhereFrom();
        x.table(1);
        x.table(4);
        for (int k = 0; k < 60; k++) {
            b.yes(x, "fact number " + k, x.fact(k % 2, k, k, k, k), k);
        }
        b.no(BoundaryFacts::sixtyFactsHouse, "a 61st fact", y -> y.fact(0, 0, 0, 0, 0), 4);
        b.no(BoundaryFacts::sixtyFactsHouse, "a 61st fact of another table", y -> y.fact(1, 0, 0, 0, 0), 4);
        b.no(BoundaryFacts::sixtyFactsHouse, "a 61st fact of no table: 1 is told ahead of 4", y -> y.fact(2, 0, 0, 0, 0), 1);
        x.undo();
        b.yes(x, "a sixtieth fact behind undo()", x.fact(0, 99, 0, 0, 0), 59);
        b.due("its value", x.told(59, 7), 99);
    }

    private void weightsAtFirst() {
        b.says(3, "A new FACT of a TABLE (of the values as many as it has places): its number.", "COUNT 0 .. 9 (1 at first)", "COST 0 .. 1000 (1)",
            "CHANCE 0 .. 8 eighths (4)");
        WhereFrom x = new WhereFrom();
        x.table(1);
        x.fact(0, 7, 0, 0, 0);
        x.put(0, 0, 9);
        x.put(0, 1, 9);
        x.put(0, 2, 0);
        x.put(0, 3, 8);
        x.drop(0, true);
        for (int k = 0; k < 6; k++) {
            x.undo();
        }
        b.due("facts behind undo()", x.size(1), 0);
        // The place of a fact that went is taken: nothing of its weights is left.
        b.yes(x, "a new fact", x.fact(0, 8, 0, 0, 0), 0);
        long[] due = {1, 1, ONE, 4, 0};
        for (int what = 0; what < 5; what++) {
            b.due("told(0, " + what + ")", x.told(0, what), due[what]);
        }
    }

    // ---- 4: drop

    private void droppedOrNoMore() {
        b.says(4, "A FACT is DROPPED, or no more: true; false: 1.", "it can be DROPPED.");
        WhereFrom x = sixtyFactsHouse();
        for (int fact : new int[] {0, 31, 32, 59}) {
            b.due("drop(" + fact + ", true)", x.drop(fact, true), true);
            b.due("status", x.status(), 0);
            b.due("told(" + fact + ", 4)", x.told(fact, 4), 1);
        }
        for (int fact : new int[] {1, 30, 33, 58}) {
            b.due("told(" + fact + ", 4), which was left alone", x.told(fact, 4), 0);
        }
        b.due("drop(0, true) again", x.drop(0, true), true);
        b.due("told(0, 4)", x.told(0, 4), 1);
        b.due("drop(0, false)", x.drop(0, false), true);
        b.due("told(0, 4)", x.told(0, 4), 0);
        b.due("drop(0, false) again", x.drop(0, false), true);
        b.due("told(0, 4)", x.told(0, 4), 0);
        b.due("told(32, 4)", x.told(32, 4), 1);
    }

    private void dropOfNoFact() {
        b.says(4, "A FACT is DROPPED, or no more: true; false: 1.");
        for (int fact : Boundary.NO_NUMBER) {
            b.refused(Boundary::house, "drop(" + fact + ", true)", x -> x.drop(fact, true) ? 1 : 0, 0, 1);
            b.refused(Boundary::house, "drop(" + fact + ", false)", x -> x.drop(fact, false) ? 1 : 0, 0, 1);
            b.refused(BoundaryFacts::sixtyFactsHouse, "drop(" + fact + ", true) of sixty", x -> x.drop(fact, true) ? 1 : 0, 0, 1);
        }
        b.refused(Boundary::house, "drop(3, true), one behind the last", x -> x.drop(3, true) ? 1 : 0, 0, 1);
    }

    // ---- 5: put

    private void fits(int what, long... all) {
        WhereFrom x = Boundary.house();
        for (long v : all) {
            b.due("put(0, " + what + ", " + v + ")", x.put(0, what, v), true);
            b.due("status", x.status(), 0);
            b.due("told(0, " + what + ")", x.told(0, what), v);
        }
    }

    private void fitsNot(int what, long... all) {
        for (long v : all) {
            b.refused(Boundary::house, "put(0, " + what + ", " + v + ")", x -> x.put(0, what, v) ? 1 : 0, 0, 2);
        }
    }

    private static final String PUT = "A FACT's what 0 COUNT, 1 COST, 2 TRUST (bits of a double), 3 CHANCE becomes v: true; false: 1; 2 (what, v).";

    private void counts() {
        b.says(5, PUT, "COUNT 0 .. 9 (1 at first)");
        fits(0, 0, 9, 1);
        fitsNot(0, -1, 10, 1L << 32, (1L << 32) + 5, -(1L << 32), Long.MIN_VALUE, Long.MAX_VALUE);
    }

    private void costs() {
        b.says(5, PUT, "COST 0 .. 1000 (1)");
        fits(1, 0, 1000, 1);
        fitsNot(1, -1, 1001, 1L << 32, (1L << 32) + 5, -(1L << 32), Long.MIN_VALUE, Long.MAX_VALUE);
    }

    private void trusts() {
        b.says(5, PUT, "TRUST (a double from 0 to 1, 1.0; -0.0 and not-a-numbers are none)");
        b.due("TRUST at first", Boundary.rows(1, 7).told(0, 2), ONE);
        fits(2, 0L, ONE, ONE - 1, 1L, Double.doubleToRawLongBits(Double.MIN_NORMAL), Double.doubleToRawLongBits(0.5));
        double[] none = {-0.0, -Double.MIN_VALUE, -0.5, -1.0, Math.nextUp(1.0), 2.0, Double.MAX_VALUE, -Double.MAX_VALUE, Double.POSITIVE_INFINITY,
            Double.NEGATIVE_INFINITY, Double.NaN};
        for (double v : none) {
            fitsNot(2, Double.doubleToRawLongBits(v));
        }
        // Not-a-numbers of all bits: the least and the greatest, quiet or not, of either sign.
        fitsNot(2, 0x7FF0000000000001L, 0x7FF8000000000001L, Long.MAX_VALUE, 0xFFF0000000000001L, 0xFFF8000000000000L, -1L);
    }

    private void chances() {
        b.says(5, PUT, "CHANCE 0 .. 8 eighths (4)");
        fits(3, 0, 8, 4);
        fitsNot(3, -1, 9, 1L << 32, (1L << 32) + 5, -(1L << 32), Long.MIN_VALUE, Long.MAX_VALUE);
    }

    private void putOfNoSuchWeight() {
        b.says(5, PUT);
        for (int what : new int[] {-1, 4, 5, MIN, MAX}) {
            fitsNot(what, 0, 1, -1);
        }
    }

    private void putOfNoFact() {
        b.says(5, PUT, "in the order told at each:");
        for (int fact : Boundary.NO_NUMBER) {
            b.refused(Boundary::house, "put(" + fact + ", 0, 2)", x -> x.put(fact, 0, 2) ? 1 : 0, 0, 1);
            b.refused(Boundary::house, "put(" + fact + ", 4, 2): 1 is told ahead of 2", x -> x.put(fact, 4, 2) ? 1 : 0, 0, 1);
            b.refused(Boundary::house, "put(" + fact + ", 0, 10): 1 is told ahead of 2", x -> x.put(fact, 0, 10) ? 1 : 0, 0, 1);
        }
        b.refused(Boundary::house, "put(3, 0, 2), one behind the last", x -> x.put(3, 0, 2) ? 1 : 0, 0, 1);
    }

    // ---- 6: told

    private void toldOfAFact() {
        b.says(6, "Of a FACT, what 0 .. 3 as in put(), 4 whether it is DROPPED (1), 5 its TABLE, 6 how many places, 7 .. 10 its values.");
        WhereFrom x = new WhereFrom();
        for (int k = 0; k < 10; k++) {
            x.table(k < 9 ? 1 : 4);
        }
        for (int k = 0; k < 59; k++) {
            x.fact(0, k, 0, 0, 0);
        }
        x.fact(9, MIN, MAX, -1, 0);
        x.put(59, 0, 0);
        x.put(59, 1, 1000);
        x.put(59, 2, 1);
        x.put(59, 3, 8);
        x.drop(59, true);
        long[] due = {0, 1000, 1, 8, 1, 9, 4, MIN, MAX, -1, 0};
        for (int what = 0; what <= 10; what++) {
            b.due("told(59, " + what + ")", x.told(59, what), due[what]);
        }
        long[] first = {1, 1, ONE, 4, 0, 0, 1, 0, -1, -1, -1};
        for (int what = 0; what <= 10; what++) {
            b.due("told(0, " + what + ")", x.told(0, what), first[what]);
        }
    }

    private void toldOfNoneSuch() {
        b.says(6, "NONE if there is none such.");
        WhereFrom x = Boundary.house();
        for (int what : new int[] {-1, 11, 12, MIN, MIN + 7, MAX}) {
            b.due("told(0, " + what + ")", x.told(0, what), -1);
        }
        for (int what = 0; what <= 10; what++) {
            b.due("told(3, " + what + "), one behind the last", x.told(3, what), -1);
            for (int fact : Boundary.NO_NUMBER) {
                b.due("told(" + fact + ", " + what + ")", x.told(fact, what), -1);
            }
        }
        b.due("the third value of two", x.told(0, 9), -1);
        b.due("the fourth value of four", x.told(2, 10), 8);
    }
}
