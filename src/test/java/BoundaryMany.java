/** Promise 16: ask(), its refusals, and MANY: one below, at and above the bounds of ANSWERS and WAYS for each kind. */
final class BoundaryMany {
    private static final int MIN = Boundary.MIN;
    private static final int MAX = Boundary.MAX;
    private static final String ANSWERS = "a QUESTION that it is asked of, or one within it, has more than 32 ANSWERS";
    private static final String WAYS = "or an ANSWER more than 16 WAYS";
    private static final String STAY = "NONE, and the latest ones stay: 1; 5.";
    private final Boundary b;

    BoundaryMany(Boundary b) {
        this.b = b;
    }

    void run() {
        howMany();
        askOfNone();
        latestStay();
        answersOfBase();
        answersOfEither();
        answersOfPair();
        answersOfClose();
        answersWithin();
        waysOfBase();
        waysOfCut();
        waysOfEither();
        waysOfPair();
        waysOfClose();
        waysBehindARound();
        hundredsInARound();
        waysWithin();
        leastOnesAlone();
        leastOfUnions();
        leastOfRows();
        leastInAnyOrder();
    }

    /** Asked and answered, or refused as MANY with all else as it was. */
    private void asked(String what, WhereFrom x, int question, int answers) {
        b.yes(x, what, x.ask(question), answers);
    }

    private void many(String what, WhereFrom x, int question) {
        String before = latest(x);
        b.due(what, x.ask(question), -1);
        b.due("status behind " + what, x.status(), 5);
        b.same("the latest ones stay behind " + what, latest(x), before);
    }

    /** Few calls, as an object is asked often here. */
    private static String latest(WhereFrom x) {
        return x.size(3) + " " + x.value(0, 0) + " " + x.ways(0) + " " + x.way(0, 0) + " " + x.need(0);
    }

    private void howMany() {
        b.says(16, "A QUESTION is asked: how many ANSWERS.", "ANSWERS 32 of a QUESTION, WAYS 16 of an ANSWER");
        asked("ask of none", Boundary.rows(1), 0, 0);
        asked("ask of one", Boundary.unlikeRows(1), 0, 1);
        asked("ask of 31", Boundary.unlikeRows(31), 0, 31);
        asked("ask of 32", Boundary.unlikeRows(32), 0, 32);
        WhereFrom sixteen = Boundary.likeRows(16);
        asked("ask of 16 ways", sixteen, 0, 1);
        b.due("ways(0)", sixteen.ways(0), 16);
    }

    private static WhereFrom manyHouse() {
        WhereFrom x = Boundary.unlikeRows(33);
        x.table(2);
        x.fact(1, 5, 6, 0, 0);
        x.base(1);
        x.ask(1);
        x.lay(0, 3, 0);
        x.lay(19, 4, 0);
        return x;
    }

    private void askOfNone() {
        b.says(16, STAY);
        b.no(BoundaryMany::manyHouse, "ask of 33 answers", x -> x.ask(0), 5);
        for (int q : new int[] {-1, 3, 40, 64, MIN, MAX}) {
            b.no(Boundary::house, "ask(" + q + ")", x -> x.ask(q), 1);
        }
    }

    private void latestStay() {
        b.says(16, STAY, "answers (as they are when ask() is called:");
        WhereFrom x = Boundary.unlikeRows(32);
        x.pick(0, 0, 31);
        asked("ask(1)", x, 1, 1);
        x.fact(0, 32, 0, 0, 0);
        many("ask of 33 answers", x, 0);
        many("ask of one within which there are 33", x, 1);
        b.row(x, 0, 31);
        x.put(31, 1, 77);
        x.drop(31, true);
        b.yes(x, "cost(0) as it was when asked", x.cost(0), 1);
        x.undo();
        x.undo();
        b.due("the latest ones", x.size(3), 1);
        x.undo();
        b.due("none, as a fact went", x.size(3), 0);
        asked("ask of 32 again", x, 0, 32);
    }

    // ---- more than 32 answers

    private void answersOfBase() {
        b.says(16, ANSWERS, "STATUS of the latest call that may be refused");
        many("33 rows of BASE", Boundary.unlikeRows(33), 0);
        many("60 rows of BASE", Boundary.unlikeRows(60), 0);
        // 60 facts, but 32 rows: the like ones are one answer.
        WhereFrom x = Boundary.unlikeRows(32);
        for (int k = 0; k < 28; k++) {
            x.fact(0, k, 0, 0, 0);
        }
        asked("60 facts with 32 rows", x, 0, 32);
    }

    /** Tables 0 and 1 of one place: so many rows 0, 1 .. of the first, and so many from a number on of the second. */
    private static WhereFrom twoTables(int first, int second, int from) {
        WhereFrom x = new WhereFrom();
        x.table(1);
        x.table(1);
        for (int k = 0; k < first; k++) {
            x.fact(0, k, 0, 0, 0);
        }
        for (int k = 0; k < second; k++) {
            x.fact(1, from + k, 0, 0, 0);
        }
        x.base(0);
        x.base(1);
        return x;
    }

    private void answersOfEither() {
        b.says(16, ANSWERS);
        WhereFrom at = twoTables(16, 16, 16);
        asked("EITHER of 16 and 16 rows", at, at.either(0, 1), 32);
        WhereFrom above = twoTables(16, 17, 16);
        many("EITHER of 16 and 17 rows", above, above.either(0, 1));
        WhereFrom like = twoTables(30, 30, 2);
        asked("EITHER of 30 and 30 rows, 28 of them alike", like, like.either(0, 1), 32);
        WhereFrom full = Boundary.unlikeRows(32);
        asked("EITHER of 32 rows and the same 32", full, full.either(0, 0), 32);
        b.due("COUNT of the first one", full.count(0), 2);
        b.due("COUNT of the last one", full.count(31), 2);
        WhereFrom most = twoTables(30, 30, 3);
        many("EITHER of 30 and 30 rows, 27 of them alike", most, most.either(0, 1));
    }

    /** A table of pairs (0, k), so many; and another one. */
    private static WhereFrom twoOfPairs(int first, int second) {
        WhereFrom x = new WhereFrom();
        x.table(2);
        x.table(2);
        for (int k = 0; k < first; k++) {
            x.fact(0, 0, k, 0, 0);
        }
        for (int k = 0; k < second; k++) {
            x.fact(1, 0, k, 0, 0);
        }
        x.base(0);
        x.base(1);
        x.pair(0, 1, 0, 0);
        return x;
    }

    private void answersOfPair() {
        b.says(16, ANSWERS);
        asked("PAIR of 4 and 8 rows", twoOfPairs(4, 8), 2, 32);
        asked("PAIR of 1 and 32 rows", twoOfPairs(1, 32), 2, 32);
        many("PAIR of 3 and 11 rows", twoOfPairs(3, 11), 2);
        many("PAIR of 30 and 30 rows", twoOfPairs(30, 30), 2);
        // MANY by its rows, though a CUT or a PICK of it would have few.
        WhereFrom x = twoOfPairs(3, 11);
        many("CUT of a PAIR of 33 rows", x, x.cut(2, 1, 0, 0, 0, 0));
        many("PICK of a PAIR of 33 rows", x, x.pick(2, 1, 0));
    }

    /** Seven steps in a line, which are 28 chains, and so many rows apart from it. */
    private static WhereFrom lineAndMore(int apart) {
        WhereFrom x = new WhereFrom();
        x.table(2);
        for (int k = 0; k < 7; k++) {
            x.fact(0, k, k + 1, 0, 0);
        }
        for (int k = 0; k < apart; k++) {
            x.fact(0, 100 + 2 * k, 101 + 2 * k, 0, 0);
        }
        x.base(0);
        x.close(0);
        return x;
    }

    private void answersOfClose() {
        b.says(16, "(of CLOSE behind any round, too)");
        asked("CLOSE with 32 answers", lineAndMore(4), 1, 32);
        many("CLOSE with 33 answers, of 12 rows", lineAndMore(5), 1);
        asked("the 12 rows by themselves", lineAndMore(5), 0, 12);
        // 32 rows, none from the end of another: as many answers in the first round as there may be.
        WhereFrom apart = new WhereFrom();
        apart.table(2);
        for (int k = 0; k < 32; k++) {
            apart.fact(0, 2 * k, 2 * k + 1, 0, 0);
        }
        apart.base(0);
        apart.close(0);
        asked("CLOSE of 32 rows apart", apart, 1, 32);
        apart.fact(0, 1, 2, 0, 0);
        many("CLOSE of 33 rows", apart, 1);
        // 31 rows and two chains more, behind the second round: 33.
        WhereFrom two = new WhereFrom();
        two.table(2);
        for (int k = 0; k < 30; k++) {
            two.fact(0, 100 + k, k % 2, 0, 0);
        }
        two.base(0);
        two.close(0);
        asked("CLOSE of 30 rows that all end", two, 1, 30);
        two.fact(0, 2, 3, 0, 0);
        asked("CLOSE of 31 rows apart", two, 1, 31);
        two.fact(0, 0, 100, 0, 0);
        many("CLOSE of 32 rows and the chains by one of them", two, 1);
    }

    private void answersWithin() {
        b.says(16, "MANY: " + ANSWERS);
        WhereFrom x = new WhereFrom();
        x.table(2);
        x.table(2);
        x.fact(1, 0, 1, 0, 0);
        for (int k = 0; k < 33; k++) {
            x.fact(0, k, -1, 0, 0);
        }
        x.base(0);
        x.base(1);
        x.pick(1, 0, 99);
        asked("the one beside it", x, 1, 1);
        many("within PICK", x, x.pick(0, 0, 0));
        many("within PICK of no row", x, x.pick(0, 0, 99));
        many("within LIKE", x, x.like(0, 0, 1));
        many("within CUT", x, x.cut(0, 1, 1, 0, 0, 0));
        many("within PAIR, the first", x, x.pair(0, 1, 0, 0));
        many("within PAIR, the second", x, x.pair(1, 0, 0, 0));
        many("within PAIR, the second, behind a first without answers", x, x.pair(2, 0, 0, 0));
        many("within EITHER, the first", x, x.either(0, 1));
        many("within EITHER, the second", x, x.either(1, 0));
        many("within CLOSE", x, x.close(0));
        many("within MOST, the first", x, x.most(0, 1));
        many("within MOST, the second", x, x.most(1, 0));
        many("within MOST, the second, behind a first without answers", x, x.most(2, 0));
        many("three deep", x, x.pick(x.either(x.most(2, 0), 1), 0, 0));
        asked("a question that it isn't within", x, x.either(1, 2), 1);
    }

    // ---- more than 16 ways

    private void waysOfBase() {
        b.says(16, WAYS);
        asked("16 facts with like rows", Boundary.likeRows(16), 0, 1);
        many("17 facts with like rows", Boundary.likeRows(17), 0);
        many("60 facts with like rows", Boundary.likeRows(60), 0);
    }

    /** Rows (0, 0) and (0, 1), by so many facts each. */
    private static WhereFrom twoRows(int first, int second) {
        WhereFrom x = new WhereFrom();
        x.table(2);
        for (int k = 0; k < first + second; k++) {
            x.fact(0, 0, k < first ? 0 : 1, 0, 0);
        }
        x.base(0);
        return x;
    }

    private void waysOfCut() {
        b.says(16, WAYS, "CUT, EITHER: the least ones of all WAYS of all that come to it");
        WhereFrom at = twoRows(15, 1);
        asked("CUT, 15 and 1 ways", at, at.cut(0, 1, 0, 0, 0, 0), 1);
        b.due("ways(0)", at.ways(0), 16);
        WhereFrom above = twoRows(16, 1);
        asked("before the CUT", above, 0, 2);
        many("CUT, 16 and 1 ways", above, above.cut(0, 1, 0, 0, 0, 0));
        WhereFrom full = twoRows(16, 16);
        many("CUT, 16 and 16 ways", full, full.cut(0, 1, 0, 0, 0, 0));
    }

    private void waysOfEither() {
        b.says(16, WAYS, "CUT, EITHER: the least ones of all WAYS of all that come to it");
        WhereFrom x = new WhereFrom();
        x.table(1);
        x.table(1);
        for (int k = 0; k < 16; k++) {
            x.fact(k < 8 ? 0 : 1, 7, 0, 0, 0);
        }
        x.base(0);
        x.base(1);
        x.either(0, 1);
        asked("EITHER of 8 and 8 ways", x, 2, 1);
        b.due("ways(0)", x.ways(0), 16);
        x.fact(1, 7, 0, 0, 0);
        many("EITHER of 8 and 9 ways", x, 2);
        asked("EITHER of 9 ways and the same ones", x, x.either(1, 1), 1);
        b.due("ways(0)", x.ways(0), 9);
    }

    private static WhereFrom pairOfWays(int first, int second) {
        WhereFrom x = new WhereFrom();
        x.table(1);
        x.table(1);
        for (int k = 0; k < first + second; k++) {
            x.fact(k < first ? 0 : 1, 7, 0, 0, 0);
        }
        x.base(0);
        x.base(1);
        x.pair(0, 1, 0, 0);
        return x;
    }

    private void waysOfPair() {
        b.says(16, WAYS, "PAIR: the least ones of all unions of a WAY of one and a WAY of the other;");
        asked("PAIR of 4 and 4 ways", pairOfWays(4, 4), 2, 1);
        asked("PAIR of 1 and 16 ways", pairOfWays(1, 16), 2, 1);
        asked("PAIR of 16 and 1 ways", pairOfWays(16, 1), 2, 1);
        many("PAIR of 3 and 6 ways", pairOfWays(3, 6), 2);
        many("PAIR of 2 and 9 ways", pairOfWays(2, 9), 2);
        many("PAIR of 16 and 16 ways", pairOfWays(16, 16), 2);
    }

    /** 1 to 2 by so many facts, 2 to 3 by so many, and 1 to 3 by so many. */
    private static WhereFrom chainOfWays(int first, int second, int straight) {
        WhereFrom x = new WhereFrom();
        x.table(2);
        for (int k = 0; k < first; k++) {
            x.fact(0, 1, 2, 0, 0);
        }
        for (int k = 0; k < second; k++) {
            x.fact(0, 2, 3, 0, 0);
        }
        for (int k = 0; k < straight; k++) {
            x.fact(0, 1, 3, 0, 0);
        }
        x.base(0);
        x.close(0);
        return x;
    }

    private void waysOfClose() {
        b.says(16, "(likewise; asked of the least ones of all that come to it).");
        WhereFrom at = chainOfWays(4, 4, 0);
        asked("a chain of 4 and 4 ways", at, 1, 3);
        b.due("ways of the chain", at.ways(at.find(1, 3, 0, 0, 0, 0)), 16);
        many("a chain of 4 and 4 ways, and one row", chainOfWays(4, 4, 1), 1);
        WhereFrom row = chainOfWays(3, 5, 1);
        asked("a chain of 3 and 5 ways, and one row", row, 1, 3);
        b.due("ways of the chain", row.ways(row.find(1, 3, 0, 0, 0, 0)), 16);
        many("a chain of 3 and 5 ways, and two rows", chainOfWays(3, 5, 2), 1);
        many("a chain of 3 and 6 ways", chainOfWays(3, 6, 0), 1);
        asked("the rows by themselves", chainOfWays(3, 6, 0), 0, 2);
    }

    /**
     * Steps 1-2 by h and one of some, 2-3 by one of four, and 1-5, 5-6, 6-3 by h alone: behind the second round the chain
     * 1-3 has four times as many ways, behind the third one h alone, which is in all of them.
     */
    private static WhereFrom rounds(int some) {
        WhereFrom x = new WhereFrom();
        x.table(4);
        x.table(2);
        x.table(2);
        x.fact(0, 1, 5, 6, 3);
        for (int k = 0; k < some; k++) {
            x.fact(1, 1, 2, 0, 0);
        }
        for (int k = 0; k < 4; k++) {
            x.fact(2, 2, 3, 0, 0);
        }
        int h = x.base(0);
        int first = x.cut(x.pair(x.cut(h, 1, 0, 0, 0, 0), x.base(1), 0, 0), 2, 1, 2, 0, 0);
        int line = x.either(x.cut(h, 2, 0, 1, 0, 0), x.either(x.cut(h, 2, 1, 2, 0, 0), x.cut(h, 2, 2, 3, 0, 0)));
        x.close(x.either(x.either(first, x.base(2)), line));
        return x;
    }

    private void waysBehindARound() {
        b.says(16, "(of CLOSE behind any round, too)", "(likewise;");
        WhereFrom at = rounds(4);
        asked("16 ways behind the second round", at, at.size(2) - 1, 8);
        b.ways(at, at.find(1, 3, 0, 0, 0, 0), 1);
        WhereFrom above = rounds(5);
        many("20 ways behind the second round, one behind the third", above, above.size(2) - 1);
    }

    private void hundredsInARound() {
        b.says(16, "(likewise; asked of the least ones of all that come to it).", "(of CLOSE behind any round, too)");
        WhereFrom at = hundreds(3, 5);
        asked("784 ways come in the second round, 16 of them are least", at, at.size(2) - 1, 16);
        b.ways(at, at.find(1, 2, 0, 0, 0, 0), 1L, 2L);
        WhereFrom above = hundreds(4, 4);
        many("785 ways come in the second round, 17 of them are least; two in the third", above, above.size(2) - 1);
    }

    /**
     * From 1 to 2, in the second round: by 3, 4 and 5 in 256 ways each, all with h (fact 0); then by 6 in some times others
     * ways, all with g (fact 1); then by 7 in h alone, which leaves h and those by 6. In the third round, by 8 and 9, in g alone.
     */
    private static WhereFrom hundreds(int some, int others) {
        WhereFrom x = new WhereFrom();
        x.table(4);
        x.table(4);
        x.fact(0, 1, 7, 2, 0);
        x.fact(1, 1, 8, 9, 2);
        for (int t = 2; t < 6; t++) {
            x.table(2);
            for (int k = 0; k < 12; k++) {
                x.fact(t, t < 4 ? 1 : 3 + k % 3, t < 4 ? 3 + k % 3 : 2, 0, 0);
            }
        }
        x.table(2);
        x.table(2);
        for (int k = 0; k < some + others; k++) {
            x.fact(k < some ? 6 : 7, k < some ? 1 : 6, k < some ? 6 : 2, 0, 0);
        }
        int h = x.base(0);
        int g = x.base(1);
        int first = x.cut(x.pair(x.base(2), x.base(3), 1, 1), 2, 0, 1, 0, 0);
        int second = x.cut(x.pair(x.base(4), x.base(5), 0, 0), 2, 0, 1, 0, 0);
        int steps = x.either(x.cut(x.pair(first, h, 0, 0), 2, 0, 1, 0, 0), second);
        steps = x.either(steps, x.either(x.cut(x.pair(x.base(6), g, 0, 0), 2, 0, 1, 0, 0), x.base(7)));
        steps = x.either(steps, x.either(x.cut(h, 2, 0, 1, 0, 0), x.cut(h, 2, 1, 2, 0, 0)));
        for (int k = 0; k < 3; k++) {
            steps = x.either(steps, x.cut(g, 2, k, k + 1, 0, 0));
        }
        x.close(steps);
        return x;
    }

    private void waysWithin() {
        b.says(16, "a QUESTION that it is asked of, or one within it,", WAYS);
        WhereFrom x = new WhereFrom();
        x.table(1);
        x.table(1);
        x.fact(1, 5, 0, 0, 0);
        for (int k = 0; k < 17; k++) {
            x.fact(0, 7, 0, 0, 0);
        }
        x.base(0);
        x.base(1);
        many("within PICK of another value", x, x.pick(0, 0, 5));
        many("within LIKE", x, x.like(0, 0, 0));
        many("within CUT", x, x.cut(0, 1, 0, 0, 0, 0));
        many("within PAIR that has no rows", x, x.pair(1, 0, 0, 0));
        many("within EITHER", x, x.either(1, 0));
        many("within MOST, the first", x, x.most(0, 1));
        many("within MOST, the second", x, x.most(1, 0));
        asked("a question that it isn't within", x, 1, 1);
    }

    // ---- asked of the least ones alone

    private void leastOnesAlone() {
        b.says(16, "asked of the least ones of all that come to it", "WAYS of an ANSWER: sets of FACTS, none of which is within another one:");
        // Five rows with each other are 25 rows; 10 unions of two and the five by themselves come to the one row of CUT.
        WhereFrom x = Boundary.rows(2, 1, 0, 1, 1, 1, 2, 1, 3, 1, 4);
        x.pair(0, 0, 0, 0);
        x.cut(1, 1, 0, 0, 0, 0);
        asked("the rows", x, 1, 25);
        asked("the CUT of them", x, 2, 1);
        b.ways(x, 0, 1, 2, 4, 8, 16);
    }

    private void leastOfUnions() {
        b.says(16, "PAIR: the least ones of all unions of a WAY of one and a WAY of the other;", "asked of the least ones of all that come to it");
        // 16 ways with the same 16 are 256 unions, of which the 16 by themselves are the least.
        WhereFrom x = Boundary.likeRows(16);
        x.pair(0, 0, 0, 0);
        asked("16 ways with themselves", x, 1, 1);
        b.due("ways(0)", x.ways(0), 16);
        b.due("the last one", x.way(0, 15), 1L << 15);
    }

    private void leastOfRows() {
        b.says(16, "of BASE: each FACT with that row by itself;", "PICK, LIKE: as there;", "asked of the least ones of all that come to it");
        // Rows of 20 unions, and then a row with h, which is in all of them.
        WhereFrom x = new WhereFrom();
        x.table(2);
        x.table(2);
        x.table(2);
        for (int k = 0; k < 20; k++) {
            x.fact(0, 1, k, 0, 0);
        }
        int h = x.fact(1, 1, 99, 0, 0);
        x.base(0);
        x.base(1);
        int withH = x.pair(1, 0, 0, 0);
        int wide = x.cut(withH, 2, 0, 3, 0, 0);
        int one = x.cut(wide, 1, 0, 0, 0, 0);
        asked("20 rows", x, wide, 20);
        many("20 ways that come to one row", x, one);
        int all = x.either(wide, 1);
        asked("21 rows", x, all, 21);
        int melted = x.cut(all, 1, 0, 0, 0, 0);
        asked("21 ways that come to one row, one of them within all others", x, melted, 1);
        b.ways(x, 0, 1L << h);
        asked("as there: PICK", x, x.pick(all, 1, 99), 1);
        b.ways(x, 0, 1L << h);
        asked("as there: LIKE", x, x.like(all, 1, 1), 21);
        b.ways(x, 0, 1L << h | 1L);
    }

    private void leastInAnyOrder() {
        b.says(16, "CUT, EITHER: the least ones of all WAYS of all that come to it", "sets of FACTS, none of which is within another one:");
        // In order of the rows there come {0, 1}, {2}, {0}, {2, 3}: the first one goes from ahead of another, the last one does not come in.
        WhereFrom x = new WhereFrom();
        x.table(2);
        x.table(2);
        x.fact(0, 1, 13, 0, 0);
        x.fact(1, 1, 11, 0, 0);
        x.fact(0, 1, 12, 0, 0);
        x.fact(1, 1, 14, 0, 0);
        x.base(0);
        x.base(1);
        int first = x.cut(x.pair(x.pick(1, 1, 11), x.pick(0, 1, 13), 0, 0), 2, 0, 1, 0, 0);
        int last = x.cut(x.pair(x.pick(1, 1, 14), x.pick(0, 1, 12), 0, 0), 2, 0, 1, 0, 0);
        int all = x.either(x.either(first, last), 0);
        asked("the rows", x, all, 4);
        b.ways(x, 0, 3);
        b.ways(x, 1, 4);
        b.ways(x, 2, 1);
        b.ways(x, 3, 12);
        asked("the CUT of them", x, x.cut(all, 1, 0, 0, 0, 0), 1);
        b.ways(x, 0, 1, 4);
    }
}
