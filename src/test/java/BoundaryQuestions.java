import java.util.function.ToLongFunction;

/** Promises 7 to 15: the eight kinds of questions, and what is told of them. */
final class BoundaryQuestions {
    private static final int MIN = Boundary.MIN;
    private static final int MAX = Boundary.MAX;
    /** Numbers of no question of house(), which has three, nor of forty(). */
    private static final int[] NO_QUESTION = {-1, 40, 41, 64, -64, MIN, MAX};
    private static final String FULL = "questions (their number; NONE where refused; 4 at last in each).";
    private final Boundary b;

    BoundaryQuestions(Boundary b) {
        this.b = b;
    }

    void run() {
        baseRows();
        baseOfNoTable();
        pickRows();
        pickOfNone();
        pickPlace();
        likeRows();
        likeRefused();
        cutRows();
        cutRefused();
        cutFreePlaces();
        pairRows();
        pairSixPlaces();
        pairRefused();
        eitherRows();
        eitherRefused();
        closeRows();
        closeRounds();
        closeLastRound();
        closeRefused();
        mostRows();
        mostRefused();
        fortyQuestions();
        kinds();
        kindOfNoneSuch();
    }

    /** Question 0 of two places, 1 of four, 2 of one, and CLOSE 3; forty in all. */
    private static WhereFrom forty() {
        WhereFrom x = new WhereFrom();
        x.table(2);
        x.table(4);
        x.fact(0, 1, 2, 0, 0);
        x.fact(1, 1, 2, 3, 4);
        x.base(0);
        x.base(1);
        x.cut(0, 1, 0, 0, 0, 0);
        x.close(0);
        for (int q = 4; q < 40; q++) {
            x.base(q % 2);
        }
        x.ask(0);
        return x;
    }

    /** Behind forty questions a call that is right is refused with 4, and a wrong one by what is told ahead of it. */
    private void full(String call, ToLongFunction<WhereFrom> right) {
        b.no(BoundaryQuestions::forty, call + " behind forty questions", right, 4);
    }

    private void wrongAndFull(String call, ToLongFunction<WhereFrom> wrong, int why) {
        b.no(BoundaryQuestions::forty, call + " behind forty questions, 4 at last", wrong, why);
    }

    // ---- 7: base

    private void baseRows() {
        b.says(7, "BASE.", "QUESTIONS, and their ANSWERS (unlike rows): BASE of a TABLE: its FACTS' rows.");
        WhereFrom x = new WhereFrom();
        x.table(1);
        b.yes(x, "base of a table without facts", x.base(0), 0);
        b.yes(x, "ask of a table without facts", x.ask(0), 0);
        for (int k = 1; k < 10; k++) {
            x.table(4);
        }
        x.fact(9, 1, 2, 3, 4);
        x.fact(0, 7, 0, 0, 0);
        x.fact(9, 1, 2, 3, 4);
        b.yes(x, "base of the last table", x.base(9), 1);
        b.yes(x, "ask of unlike rows", x.ask(1), 1);
        b.row(x, 0, 1, 2, 3, 4);
        x.drop(0, true);
        x.drop(2, true);
        b.yes(x, "ask with all facts dropped", x.ask(1), 1);
        b.yes(x, "another base of one table", x.base(9), 2);
    }

    private void baseOfNoTable() {
        b.says(7, "BASE. 1.", FULL);
        for (int table : new int[] {-1, 2, 10, MIN, MAX}) {
            b.no(Boundary::house, "base(" + table + ")", x -> x.base(table), 1);
            wrongAndFull("base(" + table + ")", x -> x.base(table), 1);
        }
        full("base(0)", x -> x.base(0));
    }

    // ---- 8: pick

    private void pickRows() {
        b.says(8, "PICK.", "PICK: those of a QUESTION whose place is a value.");
        WhereFrom x = Boundary.rows(2, MIN, MAX, MAX, MIN, 0, 0, MIN, MIN);
        b.yes(x, "pick(0, 0, MIN)", x.pick(0, 0, MIN), 1);
        b.yes(x, "pick(0, 1, MAX)", x.pick(0, 1, MAX), 2);
        b.yes(x, "pick(1, 1, -1)", x.pick(1, 1, -1), 3);
        b.yes(x, "pick(3, 0, MIN)", x.pick(3, 0, MIN), 4);
        b.yes(x, "ask(1)", x.ask(1), 2);
        b.row(x, 0, MIN, MIN);
        b.row(x, 1, MIN, MAX);
        b.yes(x, "ask(2)", x.ask(2), 1);
        b.yes(x, "ask, where no row has the value", x.ask(3), 0);
        b.yes(x, "ask, of one without answers", x.ask(4), 0);
    }

    private void pickOfNone() {
        b.says(8, "1 (QUESTION);");
        for (int q : NO_QUESTION) {
            b.no(Boundary::house, "pick(" + q + ", 0, 1)", x -> x.pick(q, 0, 1), 1);
            b.no(Boundary::house, "pick(" + q + ", 9, 1): 1 is told ahead of 2", x -> x.pick(q, 9, 1), 1);
            wrongAndFull("pick(" + q + ", 0, 1)", x -> x.pick(q, 0, 1), 1);
        }
        b.no(Boundary::house, "pick(3, 0, 1), one behind the last", x -> x.pick(3, 0, 1), 1);
    }

    private void pickPlace() {
        b.says(8, "2 (place).", FULL);
        for (int place : new int[] {-1, 2, 4, 6, MIN, MAX}) {
            b.no(Boundary::house, "pick(0, " + place + ", 1)", x -> x.pick(0, place, 1), 2);
            wrongAndFull("pick(0, " + place + ", 1)", x -> x.pick(0, place, 1), 2);
        }
        WhereFrom four = Boundary.house();
        b.yes(four, "pick(1, 3, 8), the last place of four", four.pick(1, 3, 8), 3);
        full("pick(0, 0, 1)", x -> x.pick(0, 0, 1));
    }

    // ---- 9: like

    private void likeRows() {
        b.says(9, "LIKE.", "LIKE: those of which two places are alike.");
        WhereFrom x = Boundary.rows(3, MIN, 0, MIN, MAX, MIN, MIN, 5, 5, 6, 1, 2, 3);
        b.yes(x, "like(0, 0, 2)", x.like(0, 0, 2), 1);
        b.yes(x, "like(0, 2, 0)", x.like(0, 2, 0), 2);
        b.yes(x, "like(0, 1, 1), a place and itself", x.like(0, 1, 1), 3);
        b.yes(x, "like(1, 0, 1)", x.like(1, 0, 1), 4);
        b.yes(x, "ask(1)", x.ask(1), 1);
        b.row(x, 0, MIN, 0, MIN);
        b.yes(x, "ask(2)", x.ask(2), 1);
        b.yes(x, "ask(3)", x.ask(3), 4);
        b.yes(x, "ask, where no row has two alike", x.ask(4), 0);
    }

    private void likeRefused() {
        b.says(9, "LIKE. 1; 2.", FULL);
        for (int q : NO_QUESTION) {
            b.no(Boundary::house, "like(" + q + ", 0, 1)", x -> x.like(q, 0, 1), 1);
            b.no(Boundary::house, "like(" + q + ", -1, 9): 1 is told ahead of 2", x -> x.like(q, -1, 9), 1);
            wrongAndFull("like(" + q + ", 0, 1)", x -> x.like(q, 0, 1), 1);
        }
        b.no(Boundary::house, "like(3, 0, 1), one behind the last", x -> x.like(3, 0, 1), 1);
        for (int place : new int[] {-1, 2, 6, MIN, MAX}) {
            b.no(Boundary::house, "like(0, " + place + ", 0)", x -> x.like(0, place, 0), 2);
            b.no(Boundary::house, "like(0, 0, " + place + ")", x -> x.like(0, 0, place), 2);
            wrongAndFull("like(0, 0, " + place + ")", x -> x.like(0, 0, place), 2);
        }
        full("like(0, 0, 1)", x -> x.like(0, 0, 1));
    }

    // ---- 10: cut

    private void cutRows() {
        b.says(10, "CUT to the first n of four places.", "CUT: 1 to 4 told places of each, in the order told (a place may be told twice).");
        WhereFrom x = Boundary.rows(4, 1, 2, 3, 4, 1, 9, 9, 9);
        b.yes(x, "cut to one place", x.cut(0, 1, 0, 0, 0, 0), 1);
        b.yes(x, "cut to four, backwards", x.cut(0, 4, 3, 2, 1, 0), 2);
        b.yes(x, "cut of one place to four", x.cut(1, 4, 0, 0, 0, 0), 3);
        b.due("its places", x.kind(3, 1), 4);
        b.yes(x, "ask of one place", x.ask(1), 1);
        b.row(x, 0, 1);
        b.ways(x, 0, 1, 2);
        b.yes(x, "ask of four backwards", x.ask(2), 2);
        b.row(x, 0, 4, 3, 2, 1);
        b.row(x, 1, 9, 9, 9, 1);
        b.yes(x, "ask of one place told four times", x.ask(3), 1);
        b.row(x, 0, 1, 1, 1, 1);
        b.yes(x, "cut to four, the last one last", x.cut(0, 4, 0, 1, 2, 3), 4);
        b.yes(x, "ask of it", x.ask(4), 2);
        b.row(x, 0, 1, 2, 3, 4);
        // The last place of six.
        WhereFrom y = Boundary.rows(3, 1, 2, 3);
        y.pair(0, 0, 0, 0);
        b.yes(y, "cut of six places", y.cut(1, 2, 5, 0, 0, 0), 2);
        b.yes(y, "ask", y.ask(2), 1);
        b.row(y, 0, 3, 1);
        WhereFrom none = Boundary.rows(2);
        b.yes(none, "cut of a question without answers", none.cut(0, 1, 0, 0, 0, 0), 1);
        b.yes(none, "ask of it", none.ask(1), 0);
    }

    private void cutRefused() {
        b.says(10, "1; 2 (n 1 .. 4, a place among the first n).", FULL);
        for (int q : NO_QUESTION) {
            b.no(Boundary::house, "cut(" + q + ", 1, ..)", x -> x.cut(q, 1, 0, 0, 0, 0), 1);
            b.no(Boundary::house, "cut(" + q + ", 0, ..): 1 is told ahead of 2", x -> x.cut(q, 0, 9, 9, 9, 9), 1);
            wrongAndFull("cut(" + q + ", 1, ..)", x -> x.cut(q, 1, 0, 0, 0, 0), 1);
        }
        b.no(Boundary::house, "cut(3, 1, ..), one behind the last", x -> x.cut(3, 1, 0, 0, 0, 0), 1);
        for (int n : new int[] {0, 5, 6, -1, MIN, MAX}) {
            b.no(Boundary::house, "cut(0, " + n + ", ..)", x -> x.cut(0, n, 0, 0, 0, 0), 2);
            wrongAndFull("cut(0, " + n + ", ..)", x -> x.cut(0, n, 0, 0, 0, 0), 2);
        }
        for (int place : new int[] {-1, 2, 6, MIN, MAX}) {
            for (int n = 1; n <= 4; n++) {
                int many = n;
                b.no(Boundary::house, "cut to " + n + ", first place " + place, x -> x.cut(0, many, place, 0, 0, 0), 2);
            }
            b.no(Boundary::house, "second place " + place, x -> x.cut(0, 2, 0, place, 0, 0), 2);
            b.no(Boundary::house, "third place " + place, x -> x.cut(0, 3, 0, 0, place, 0), 2);
            b.no(Boundary::house, "fourth place " + place, x -> x.cut(0, 4, 0, 0, 0, place), 2);
            wrongAndFull("a fourth place " + place, x -> x.cut(0, 4, 0, 0, 0, place), 2);
        }
        full("cut(0, 4, ..)", x -> x.cut(0, 4, 0, 0, 1, 1));
    }

    private void cutFreePlaces() {
        b.says(10, "CUT to the first n of four places.");
        WhereFrom x = Boundary.house();
        for (int off : new int[] {-1, 2, 64, MIN, MAX}) {
            int next = x.size(2);
            b.yes(x, "behind the first one " + off, x.cut(0, 1, 1, off, off, off), next);
            b.yes(x, "behind the second one " + off, x.cut(0, 2, 1, 0, off, off), next + 1);
            b.yes(x, "behind the third one " + off, x.cut(0, 3, 1, 0, 1, off), next + 2);
            b.yes(x, "ask", x.ask(next), 2);
        }
    }

    // ---- 11: pair

    private void pairRows() {
        b.says(11, "PAIR by a place of the one and one of the other.",
            "PAIR: a row of one and a row of another one behind it, where a place of the first is like a place of the second (together at most 6 places).");
        WhereFrom x = Boundary.rows(2, MIN, 5, MAX, MIN);
        b.yes(x, "pair by the last and the first place", x.pair(0, 0, 1, 0), 1);
        b.yes(x, "ask", x.ask(1), 1);
        b.row(x, 0, MAX, MIN, MIN, 5);
        b.ways(x, 0, 3);
        b.yes(x, "pair by the first and the last place", x.pair(0, 0, 0, 1), 2);
        b.yes(x, "ask", x.ask(2), 1);
        b.row(x, 0, MIN, 5, MAX, MIN);
        x.pick(0, 0, 0);
        b.yes(x, "pair with one without answers", x.pair(0, 3, 0, 0), 4);
        b.yes(x, "ask", x.ask(4), 0);
        b.yes(x, "pair of one without answers", x.pair(3, 0, 0, 0), 5);
        b.yes(x, "ask", x.ask(5), 0);
        b.yes(x, "pair of two without answers", x.pair(3, 3, 0, 0), 6);
        b.yes(x, "ask", x.ask(6), 0);
        WhereFrom apart = Boundary.rows(2, 1, 2, 3, 4);
        b.yes(apart, "pair where no two are alike", apart.pair(0, 0, 1, 0), 1);
        b.yes(apart, "ask", apart.ask(1), 0);
    }

    /** Questions 0 to 3 of one to four places, 4 of six, 5 of five. */
    private static WhereFrom places() {
        WhereFrom x = new WhereFrom();
        for (int places = 1; places <= 4; places++) {
            x.table(places);
            x.fact(places - 1, 1, 2, 3, 4);
            x.base(places - 1);
        }
        x.pair(2, 2, 0, 0);
        x.pair(0, 3, 0, 0);
        return x;
    }

    private void pairSixPlaces() {
        b.says(11, "3 more than 6 together.", "QUESTIONS 40 of 1 to 6 places", "(together at most 6 places)");
        WhereFrom x = places();
        b.due("places of 3 and 3", x.kind(4, 1), 6);
        b.due("places of 1 and 4", x.kind(5, 1), 5);
        b.yes(x, "5 and 1", x.pair(5, 0, 4, 0), 6);
        b.yes(x, "4 and 2", x.pair(3, 1, 3, 1), 7);
        b.yes(x, "1 and 5", x.pair(0, 5, 0, 4), 8);
        b.due("places of 1 and 5", x.kind(8, 1), 6);
        b.yes(x, "ask of six places", x.ask(4), 1);
        b.row(x, 0, 1, 2, 3, 1, 2, 3);
        b.no(BoundaryQuestions::places, "6 and 1", y -> y.pair(4, 0, 5, 0), 3);
        b.no(BoundaryQuestions::places, "1 and 6", y -> y.pair(0, 4, 0, 5), 3);
        b.no(BoundaryQuestions::places, "4 and 3", y -> y.pair(3, 2, 0, 0), 3);
        b.no(BoundaryQuestions::places, "3 and 4", y -> y.pair(2, 3, 0, 0), 3);
        b.no(BoundaryQuestions::places, "6 and 6", y -> y.pair(4, 4, 0, 0), 3);
    }

    private void pairRefused() {
        b.says(11, "1; 2 (places); 3 more than 6 together.", FULL);
        for (int q : NO_QUESTION) {
            b.no(Boundary::house, "pair(" + q + ", 0, 0, 0)", x -> x.pair(q, 0, 0, 0), 1);
            b.no(Boundary::house, "pair(0, " + q + ", 0, 0)", x -> x.pair(0, q, 0, 0), 1);
            b.no(Boundary::house, "pair(" + q + ", 0, 9, 9): 1 is told ahead of 2", x -> x.pair(q, 0, 9, 9), 1);
            b.no(Boundary::house, "pair(0, " + q + ", 9, 9): 1 is told ahead of 2", x -> x.pair(0, q, 9, 9), 1);
            wrongAndFull("pair(0, " + q + ", 0, 0)", x -> x.pair(0, q, 0, 0), 1);
        }
        b.no(Boundary::house, "pair(3, 0, 0, 0), one behind the last", x -> x.pair(3, 0, 0, 0), 1);
        b.no(Boundary::house, "pair(0, 3, 0, 0), one behind the last", x -> x.pair(0, 3, 0, 0), 1);
        for (int place : new int[] {-1, 4, 6, MIN, MAX}) {
            b.no(Boundary::house, "pair(0, 1, " + place + ", 0)", x -> x.pair(0, 1, place, 0), 2);
            b.no(Boundary::house, "pair(0, 1, 0, " + place + ")", x -> x.pair(0, 1, 0, place), 2);
            b.no(Boundary::house, "pair(1, 1, " + place + ", 0): 2 is told ahead of 3", x -> x.pair(1, 1, place, 0), 2);
            b.no(Boundary::house, "pair(1, 1, 0, " + place + "): 2 is told ahead of 3", x -> x.pair(1, 1, 0, place), 2);
            wrongAndFull("pair(0, 1, 0, " + place + ")", x -> x.pair(0, 1, 0, place), 2);
        }
        b.no(Boundary::house, "pair(0, 1, 2, 0), a place of the other one alone", x -> x.pair(0, 1, 2, 0), 2);
        b.no(Boundary::house, "pair(1, 0, 0, 2), a place of the first one alone", x -> x.pair(1, 0, 0, 2), 2);
        wrongAndFull("pair(1, 1, 0, 0)", x -> x.pair(1, 1, 0, 0), 3);
        full("pair(0, 1, 0, 0)", x -> x.pair(0, 1, 0, 0));
    }

    // ---- 12: either

    private void eitherRows() {
        b.says(12, "EITHER.", "EITHER: the rows of both (of as many places).");
        WhereFrom x = Boundary.rows(1, 5, MIN, MAX);
        x.pick(0, 0, 99);
        x.pick(0, 0, MIN);
        b.yes(x, "either of two without answers", x.either(1, 1), 3);
        b.yes(x, "either with one without answers", x.either(0, 1), 4);
        b.yes(x, "either of one without answers", x.either(1, 0), 5);
        b.yes(x, "either of one and itself", x.either(0, 0), 6);
        b.yes(x, "either of one and a part of it", x.either(2, 0), 7);
        b.yes(x, "ask", x.ask(3), 0);
        for (int q = 4; q < 8; q++) {
            b.yes(x, "ask(" + q + ")", x.ask(q), 3);
            b.row(x, 0, MIN);
            b.row(x, 2, MAX);
            b.ways(x, 0, 2);
        }
        WhereFrom six = places();
        b.yes(six, "either of six places", six.either(4, 4), 6);
        b.yes(six, "ask", six.ask(6), 1);
    }

    private void eitherRefused() {
        b.says(12, "EITHER. 1; 3.", FULL);
        twoQuestions("either", WhereFrom::either);
    }

    private interface Two {
        int of(WhereFrom x, int one, int other);
    }

    private void twoQuestions(String name, Two call) {
        for (int q : NO_QUESTION) {
            b.no(Boundary::house, name + "(" + q + ", 0)", x -> call.of(x, q, 0), 1);
            b.no(Boundary::house, name + "(0, " + q + ")", x -> call.of(x, 0, q), 1);
            wrongAndFull(name + "(0, " + q + ")", x -> call.of(x, 0, q), 1);
        }
        b.no(Boundary::house, name + "(3, 0), one behind the last", x -> call.of(x, 3, 0), 1);
        b.no(Boundary::house, name + "(0, 3), one behind the last", x -> call.of(x, 0, 3), 1);
        b.no(Boundary::house, name + " of two and four places", x -> call.of(x, 0, 1), 3);
        b.no(Boundary::house, name + " of four and two places", x -> call.of(x, 1, 0), 3);
        b.no(BoundaryQuestions::places, name + " of five and six places", x -> call.of(x, 5, 4), 3);
        b.no(BoundaryQuestions::places, name + " of one and two places", x -> call.of(x, 0, 1), 3);
        wrongAndFull(name + " of two and four places", x -> call.of(x, 0, 1), 3);
        full(name + "(0, 0)", x -> call.of(x, 0, 0));
    }

    // ---- 13: close

    private void closeRows() {
        b.says(13, "CLOSE.", "CLOSE (of two places): (a, b) from a to b by one row of the QUESTION, or more, one from the end of the other.");
        WhereFrom none = Boundary.rows(2);
        b.yes(none, "close of a question without answers", none.close(0), 1);
        b.yes(none, "ask", none.ask(1), 0);
        WhereFrom self = Boundary.rows(2, 7, 7);
        self.close(0);
        b.yes(self, "a row from a to a by itself", self.ask(1), 1);
        b.ways(self, 0, 1);
        b.yes(self, "its COST is that of one row", self.cost(0), 1);
        WhereFrom apart = Boundary.rows(2, 1, 2, 3, 4);
        apart.close(0);
        b.yes(apart, "rows of which none begins at another's end", apart.ask(1), 2);
        WhereFrom ends = Boundary.rows(2, MAX, MIN, MIN, MAX);
        ends.close(0);
        b.yes(ends, "from MAX to MIN and back", ends.ask(1), 4);
        b.row(ends, 0, MIN, MIN);
        b.row(ends, 3, MAX, MAX);
        b.ways(ends, 0, 3);
        b.ways(ends, 1, 2);
        b.yes(ends, "close of CLOSE", ends.close(1), 2);
        b.yes(ends, "ask", ends.ask(2), 4);
        b.ways(ends, 3, 3);
    }

    private void closeRounds() {
        b.says(13, "CLOSE: in rounds: first those of the QUESTION; in each further round to those of (a, c) there come all unions of a WAY of (a, b), as it was"
            + " ahead of this round, and a WAY of the QUESTION's (b, c), for all b: the least ones of all; until a round changes nothing (of WAYS and"
            + " ANSWERS).");
        // Seven steps in one line, told backwards: the longest chain is whole in the last round alone.
        WhereFrom line = Boundary.rows(2, 6, 7, 5, 6, 4, 5, 3, 4, 2, 3, 1, 2, 0, 1);
        line.close(0);
        b.yes(line, "ask", line.ask(1), 28);
        b.ways(line, line.find(0, 7, 0, 0, 0, 0), 127);
        b.ways(line, line.find(0, 1, 0, 0, 0, 0), 64);
        // A round that brings no new row, but a new way: 1-2-3-4 beside 1-4.
        WhereFrom round = Boundary.rows(2, 1, 4, 1, 2, 2, 3, 3, 4, 2, 4);
        round.close(0);
        b.yes(round, "ask", round.ask(1), 6);
        b.ways(round, round.find(1, 4, 0, 0, 0, 0), 1, 14, 18);
        // A way that goes round a ring holds the shorter one.
        WhereFrom ring = Boundary.rows(2, 1, 2, 2, 1);
        ring.close(0);
        b.yes(ring, "ask", ring.ask(1), 4);
        b.ways(ring, ring.find(1, 2, 0, 0, 0, 0), 1);
        b.ways(ring, ring.find(2, 1, 0, 0, 0, 0), 2);
    }

    private void closeLastRound() {
        b.says(13, "until a round changes nothing (of WAYS and ANSWERS).");
        // 1-2 by facts 0 and 1, 2-0 by fact 2; 1-5, 5-6, 6-0 by fact 0 alone: the last round puts one way of 1-0 for another one.
        WhereFrom x = new WhereFrom();
        x.table(4);
        x.table(2);
        x.fact(0, 1, 5, 6, 0);
        x.fact(1, 1, 2, 0, 0);
        x.fact(1, 2, 0, 0, 0);
        x.base(0);
        x.base(1);
        int first = x.cut(x.pair(x.cut(0, 1, 0, 0, 0, 0), 1, 0, 0), 2, 1, 2, 0, 0);
        int line = x.either(x.cut(0, 2, 0, 1, 0, 0), x.either(x.cut(0, 2, 1, 2, 0, 0), x.cut(0, 2, 2, 3, 0, 0)));
        int steps = x.either(x.either(first, x.pick(1, 0, 2)), line);
        b.yes(x, "the rows", x.ask(steps), 5);
        b.ways(x, x.find(1, 2, 0, 0, 0, 0), 3);
        b.yes(x, "the chains", x.ask(x.close(steps)), 8);
        b.row(x, 0, 1, 0);
        b.ways(x, 0, 1);
    }

    private void closeRefused() {
        b.says(13, "CLOSE. 1; 3.", FULL);
        for (int q : NO_QUESTION) {
            b.no(Boundary::house, "close(" + q + ")", x -> x.close(q), 1);
            wrongAndFull("close(" + q + ")", x -> x.close(q), 1);
        }
        b.no(Boundary::house, "close(3), one behind the last", x -> x.close(3), 1);
        for (int q : new int[] {0, 2, 3, 4, 5}) {
            b.no(BoundaryQuestions::places, "close of a question of " + places().kind(q, 1) + " places", x -> x.close(q), 3);
        }
        WhereFrom two = places();
        b.yes(two, "close of two places", two.close(1), 6);
        wrongAndFull("close of four places", x -> x.close(1), 3);
        wrongAndFull("close of one place", x -> x.close(2), 3);
        full("close(0)", x -> x.close(0));
    }

    // ---- 14: most

    private void mostRows() {
        b.says(14, "MOST.", "MOST: rows of the first that are no rows of the second that is TRUE (of as many places).");
        WhereFrom x = Boundary.rows(1, MIN, 5, MAX, 5);
        x.pick(0, 0, 99);
        b.yes(x, "most of one and itself", x.most(0, 0), 2);
        b.yes(x, "most of one without answers", x.most(1, 0), 3);
        b.yes(x, "most against one without answers", x.most(0, 1), 4);
        b.yes(x, "ask", x.ask(2), 0);
        b.yes(x, "ask", x.ask(3), 0);
        b.yes(x, "ask", x.ask(4), 3);
        x.drop(1, true);
        b.yes(x, "ask, one of two ways being whole", x.ask(2), 0);
        x.drop(3, true);
        b.yes(x, "ask, no way of a row being whole", x.ask(2), 1);
        b.row(x, 0, 5);
        b.ways(x, 0, 2, 8);
        b.yes(x, "the answer itself isn't TRUE", x.stays(0), 0);
        x.drop(0, true);
        x.drop(2, true);
        b.yes(x, "ask, all facts being dropped", x.ask(2), 3);
        x.drop(3, false);
        b.due("the answers as they were when asked", x.size(3), 3);
        b.yes(x, "ask again", x.ask(2), 2);
    }

    private void mostRefused() {
        b.says(14, "MOST. 1; 3.", FULL);
        twoQuestions("most", WhereFrom::most);
    }

    // ---- 15: kind

    private void fortyQuestions() {
        b.says(15, "QUESTIONS 40", FULL);
        WhereFrom x = forty();
        b.due("questions", x.size(2), 40);
        b.due("the last one's kind", x.kind(39, 0), 0);
        b.due("no further one", x.kind(40, 0), -1);
        b.yes(x, "ask of the last one", x.ask(39), 1);
        x.undo();
        b.yes(x, "a fortieth one behind undo()", x.most(38, 38), 39);
        b.due("its kind", x.kind(39, 0), 7);
        b.due("a further one", x.base(0), -1);
        b.due("its status", x.status(), 4);
    }

    private void kinds() {
        b.says(15, "Of a QUESTION, what 0 its kind (BASE 0, PICK, LIKE, CUT, PAIR, EITHER, CLOSE, MOST 7), 1 places, 2 the QUESTION (of BASE the TABLE) it is of,"
            + " 3 the second one (NONE), 4 whether a CLOSE is in it (1).");
        WhereFrom x = new WhereFrom();
        for (int k = 0; k < 10; k++) {
            x.table(k == 9 ? 2 : 4);
        }
        x.base(9);
        x.pick(0, 1, 5);
        x.like(1, 0, 1);
        x.cut(2, 4, 0, 0, 0, 0);
        x.pair(0, 3, 1, 3);
        x.either(0, 1);
        x.close(5);
        x.most(1, 6);
        x.most(6, 1);
        x.pair(7, 0, 0, 0);
        int[][] due = {{0, 2, 9, -1, 0}, {1, 2, 0, -1, 0}, {2, 2, 1, -1, 0}, {3, 4, 2, -1, 0}, {4, 6, 0, 3, 0}, {5, 2, 0, 1, 0}, {6, 2, 5, -1, 1},
            {7, 2, 1, 6, 1}, {7, 2, 6, 1, 1}, {4, 4, 7, 0, 1}};
        for (int q = 0; q < due.length; q++) {
            for (int what = 0; what < 5; what++) {
                b.due("kind(" + q + ", " + what + ")", x.kind(q, what), due[q][what]);
            }
        }
    }

    private void kindOfNoneSuch() {
        b.says(15, "NONE if there is none such.");
        WhereFrom x = Boundary.house();
        for (int what : new int[] {-1, 5, 6, MIN, MAX}) {
            b.due("kind(0, " + what + ")", x.kind(0, what), -1);
        }
        for (int what = 0; what < 5; what++) {
            b.due("kind(3, " + what + "), one behind the last", x.kind(3, what), -1);
            for (int q : NO_QUESTION) {
                b.due("kind(" + q + ", " + what + ")", x.kind(q, what), -1);
            }
        }
    }
}
