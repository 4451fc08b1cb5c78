import java.util.function.ToLongFunction;

/** Promises 36 to 38: acts that are taken back, sizes, and the status. */
final class BoundaryUndo {
    private static final int MIN = Boundary.MIN;
    private static final int MAX = Boundary.MAX;
    private final Boundary b;

    BoundaryUndo(Boundary b) {
        this.b = b;
    }

    void run() {
        undoOfNone();
        undoAllActs();
        hundredActs();
        hundredAndOneActs();
        undoAndActAgain();
        everyAct();
        noActs();
        answersStay();
        answersGo();
        sizesOfNothing();
        sizesWhenFull();
        sizeOfOthers();
        sizeOfTheLatestAsk();
        statusOfNothing();
        everyStatus();
        statusIsLeftAlone();
        statusOfAccepted();
    }

    // ---- 36: undo

    private void undoOfNone() {
        b.says(36, "0 if there is none.");
        WhereFrom x = new WhereFrom();
        b.due("undo() of a new object", x.undo(), 0);
        x.table(0);
        b.due("undo() behind a refused call alone", x.undo(), 0);
        b.due("undo() again", x.undo(), 0);
        b.yes(x, "a table behind undo()", x.table(1), 0);
        b.due("undo()", x.undo(), 1);
        b.due("undo() again", x.undo(), 0);
        b.due("tables", x.size(0), 0);
        b.due("acts", x.size(4), 0);
    }

    private void undoAllActs() {
        b.says(36, "The latest act that was accepted, and isn't taken back (of a hundred) is taken back: 1;");
        WhereFrom x = Boundary.house();
        int acts = x.size(4);
        b.due("acts of the house", acts, 15);
        for (int k = 0; k < acts; k++) {
            b.due("undo() number " + k, x.undo(), 1);
            b.due("acts that are left", x.size(4), acts - 1 - k);
        }
        b.due("undo() of no more", x.undo(), 0);
        b.same("all is as in a new object", Boundary.seen(x), Boundary.seen(new WhereFrom()));
    }

    /** A table, a fact and so many acts of put(), COST 1, 2, 3 .. */
    private static WhereFrom acts(int puts) {
        WhereFrom x = new WhereFrom();
        x.table(1);
        x.fact(0, 7, 0, 0, 0);
        for (int k = 1; k <= puts; k++) {
            x.put(0, 1, k);
        }
        return x;
    }

    private void hundredActs() {
        b.says(36, "(of a hundred)", "the latest 100 acts can be taken back.");
        WhereFrom x = acts(98);
        b.due("acts", x.size(4), 100);
        for (int k = 97; k >= 0; k--) {
            b.due("undo()", x.undo(), 1);
            b.due("COST", x.told(0, 1), Math.max(k, 1));
        }
        b.due("undo() of the fact", x.undo(), 1);
        b.due("facts", x.size(1), 0);
        b.due("undo() of the table, the hundredth", x.undo(), 1);
        b.due("tables", x.size(0), 0);
        b.due("undo() of no more", x.undo(), 0);
    }

    private void hundredAndOneActs() {
        b.says(36, "(of a hundred)", "the latest 100 acts can be taken back.");
        WhereFrom x = acts(99);
        b.due("acts", x.size(4), 100);
        for (int k = 0; k < 100; k++) {
            b.due("undo() number " + k, x.undo(), 1);
        }
        b.due("the fact is taken back", x.size(1), 0);
        b.due("undo() of a 101st", x.undo(), 0);
        b.due("the table stays", x.size(0), 1);
        WhereFrom y = acts(250);
        b.due("acts", y.size(4), 100);
        for (int k = 0; k < 100; k++) {
            y.undo();
        }
        b.due("undo() of a 101st", y.undo(), 0);
        b.due("COST", y.told(0, 1), 150);
        b.due("acts", y.size(4), 0);
    }

    private void undoAndActAgain() {
        b.says(36, "The latest act that was accepted, and isn't taken back (of a hundred) is taken back: 1;");
        WhereFrom x = acts(120);
        for (int k = 0; k < 60; k++) {
            x.undo();
        }
        b.due("acts that are left", x.size(4), 40);
        for (int k = 500; k < 559; k++) {
            x.put(0, 1, k);
        }
        b.due("acts with 59 new ones", x.size(4), 99);
        x.put(0, 1, 559);
        b.due("acts with 60 new ones", x.size(4), 100);
        x.put(0, 1, 560);
        b.due("acts with 61 new ones", x.size(4), 100);
        for (int k = 559; k >= 500; k--) {
            b.due("undo()", x.undo(), 1);
            b.due("COST", x.told(0, 1), k);
        }
        for (int k = 60; k >= 22; k--) {
            b.due("undo()", x.undo(), 1);
            b.due("COST", x.told(0, 1), k);
        }
        b.due("undo()", x.undo(), 1);
        b.due("COST", x.told(0, 1), 21);
        b.due("undo() of no more", x.undo(), 0);
    }

    /** An act upon the house that is taken back: all is as in a house without it, and so is the act before it. */
    private void act(String call, ToLongFunction<WhereFrom> made, long answer) {
        WhereFrom x = Boundary.house();
        WhereFrom twin = Boundary.house();
        b.due(call, made.applyAsLong(x), answer);
        b.due("an act: " + call, x.size(4), twin.size(4) + 1);
        b.due("undo() of " + call, x.undo(), 1);
        boolean answersGo = x.size(3) == 0;
        if (answersGo) {
            twin.table(1);
            twin.undo();
        }
        b.same("all is as before " + call, Boundary.seen(x), Boundary.seen(twin));
        b.due("undo() of the act before", x.undo(), twin.undo());
        b.same("all is as before the act before " + call, Boundary.seen(x), Boundary.seen(twin));
    }

    private void everyAct() {
        b.says(36, "Acts: table, fact, drop, put, the eight QUESTIONS, lay, copy.");
        act("table", x -> x.table(4), 2);
        act("fact", x -> x.fact(1, 9, 9, 9, 9), 3);
        act("drop", x -> x.drop(0, true) ? 1 : 0, 1);
        act("drop of a dropped one", x -> x.drop(1, true) ? 1 : 0, 1);
        act("drop no more", x -> x.drop(1, false) ? 1 : 0, 1);
        act("drop no more of one that isn't", x -> x.drop(2, false) ? 1 : 0, 1);
        act("put COUNT", x -> x.put(0, 0, 9) ? 1 : 0, 1);
        act("put COST", x -> x.put(1, 1, 1000) ? 1 : 0, 1);
        act("put TRUST", x -> x.put(0, 2, 0) ? 1 : 0, 1);
        act("put CHANCE", x -> x.put(2, 3, 0) ? 1 : 0, 1);
        act("put of what is there", x -> x.put(2, 3, 4) ? 1 : 0, 1);
        act("base", x -> x.base(0), 3);
        act("pick", x -> x.pick(0, 0, 1), 3);
        act("like", x -> x.like(0, 0, 1), 3);
        act("cut", x -> x.cut(1, 4, 0, 1, 2, 3), 3);
        act("pair", x -> x.pair(0, 1, 0, 0), 3);
        act("either", x -> x.either(0, 2), 3);
        act("close", x -> x.close(2), 3);
        act("most", x -> x.most(0, 2), 3);
        for (int sort = 0; sort <= 4; sort++) {
            int of = sort;
            act("lay of sort " + sort + " over nothing", x -> x.lay(19, of, 0), 1);
            for (int k = 0; k < 4; k++) {
                int at = k;
                act("lay of sort " + sort + " over sort " + (k + 1), x -> x.lay(at, of, 0), 1);
            }
        }
        act("copy", x -> x.copy(2, 0, 2, 1, 1), 1);
        act("copy of no values", x -> x.copy(2, 0, 2, 0, 0), 1);
    }

    private void noActs() {
        b.says(36, "Acts: table, fact, drop, put, the eight QUESTIONS, lay, copy.");
        WhereFrom x = Boundary.house();
        int acts = x.size(4);
        x.told(0, 0);
        x.kind(0, 0);
        x.ask(2);
        x.value(0, 0);
        x.find(1, 2, 0, 0, 0, 0);
        x.ways(0);
        x.way(0, 0);
        x.need(0);
        x.count(0);
        x.cost(0);
        x.trust(0);
        x.stays(0);
        x.without(0L);
        x.with(0, 0L);
        x.chance(0);
        x.share(0, 0);
        x.least(0);
        x.blame(0, 0);
        x.lies(0);
        x.taken(0, 1, 0);
        x.size(0);
        x.status();
        x.ask(99);
        x.table(9);
        x.lay(20, 0, 0);
        b.due("acts behind calls that are none", x.size(4), acts);
        b.due("undo()", x.undo(), 1);
        b.due("the last lay() is taken back", x.lies(3), 0);
        b.due("undo() is no act", x.size(4), acts - 1);
    }

    private void answersStay() {
        b.says(36, "(ANSWERS stay as they were told;");
        WhereFrom x = Boundary.rows(2, 1, 2, 1, 2);
        x.put(0, 1, 30);
        x.put(1, 1, 20);
        x.put(1, 2, 0);
        x.put(1, 0, 7);
        x.drop(1, true);
        x.close(0);
        x.pair(0, 0, 0, 0);
        x.ask(2);
        x.lay(0, 3, 0);
        String told = toldOf(x);
        for (int k = 0; k < 9; k++) {
            b.due("undo() number " + k, x.undo(), 1);
            b.same("the answers behind it", toldOf(x), told);
        }
        b.due("no questions", x.size(2), 0);
        b.due("the facts are there", x.size(1), 2);
        // Of a CLOSE that went, COUNT isn't told either.
        WhereFrom closed = Boundary.rows(2, 1, 2);
        closed.close(0);
        closed.ask(1);
        closed.undo();
        b.due("count(0) of a CLOSE that went", closed.count(0), 0);
        b.due("its status", closed.status(), 6);
    }

    private static String toldOf(WhereFrom x) {
        return x.size(3) + " " + x.value(0, 0) + " " + x.value(0, 3) + " " + x.ways(0) + " " + x.way(0, 1) + " " + x.count(0) + " " + x.cost(0) + " "
            + x.trust(0) + " " + x.need(0) + " " + x.find(1, 2, 1, 2, 0, 0);
    }

    private void answersGo() {
        b.says(36, "but when a FACT or a TABLE goes there are none any more.)");
        WhereFrom fact = Boundary.house();
        fact.fact(1, 1, 1, 1, 1);
        b.due("a new fact leaves them", fact.size(3), 2);
        fact.undo();
        none("a fact that no answer has went", fact);
        b.yes(fact, "asked again", fact.ask(0), 2);
        WhereFrom table = Boundary.house();
        table.table(1);
        b.due("a new table leaves them", table.size(3), 2);
        table.undo();
        none("a table without facts went", table);
        b.yes(table, "asked again", table.ask(0), 2);
        WhereFrom empty = Boundary.rows(1);
        empty.ask(0);
        empty.table(1);
        empty.undo();
        none("a table went behind no answers", empty);
    }

    private void none(String what, WhereFrom x) {
        b.due(what + ": answers", x.size(3), 0);
        b.due(what + ": value(0, 0)", x.value(0, 0), 0);
        b.due(what + ": find", x.find(1, 2, 0, 0, 0, 0), -1);
        b.due(what + ": ways(0)", x.ways(0), -1);
        b.due(what + ": way(0, 0)", x.way(0, 0), 0);
        b.due(what + ": without(0)", x.without(0L), 0);
        b.due(what + ": cost(0)", x.cost(0), -1);
        b.due(what + ": its status", x.status(), 1);
        b.due(what + ": lay of a row", x.lay(0, 3, 0), -1);
    }

    // ---- 37: size

    private static final String SIZES = "0 TABLES, 1 FACTS, 2 QUESTIONS, 3 ANSWERS of the latest ask(), 4 acts that can be taken back;";

    private void sizesOfNothing() {
        b.says(37, SIZES);
        WhereFrom x = new WhereFrom();
        for (int what = 0; what < 5; what++) {
            b.due("size(" + what + ")", x.size(what), 0);
        }
    }

    private void sizesWhenFull() {
        b.says(37, SIZES);
        WhereFrom x = Boundary.unlikeRows(32);
        for (int k = 0; k < 28; k++) {
            x.fact(0, k, 0, 0, 0);
        }
        for (int k = 1; k < 10; k++) {
            x.table(4);
        }
        for (int k = 1; k < 40; k++) {
            x.pick(0, 0, k);
        }
        x.ask(0);
        int[] due = {10, 60, 40, 32, 100};
        for (int what = 0; what < 5; what++) {
            b.due("size(" + what + ")", x.size(what), due[what]);
        }
        x.table(1);
        x.fact(0, 0, 0, 0, 0);
        x.base(0);
        for (int what = 0; what < 5; what++) {
            b.due("size(" + what + ") behind refused calls", x.size(what), due[what]);
        }
    }

    private void sizeOfOthers() {
        b.says(37, "NONE for others.");
        WhereFrom x = Boundary.house();
        for (int what : new int[] {-1, 5, 6, 64, MIN, MAX}) {
            b.due("size(" + what + ")", x.size(what), -1);
        }
    }

    private void sizeOfTheLatestAsk() {
        b.says(37, "3 ANSWERS of the latest ask(),");
        WhereFrom x = Boundary.house();
        b.due("size(3)", x.size(3), 2);
        x.ask(2);
        b.due("size(3) behind ask(2)", x.size(3), 3);
        x.ask(3);
        b.due("size(3) behind a refused ask()", x.size(3), 3);
        x.ask(x.pick(0, 0, 99));
        b.due("size(3) behind an ask() without answers", x.size(3), 0);
    }

    // ---- 38: status

    private static final String OF_THE_LATEST = "STATUS of the latest call that may be refused, in the order told at each: 0 it wasn't;";

    private void statusOfNothing() {
        b.says(38, "STATUS.", OF_THE_LATEST);
        WhereFrom x = new WhereFrom();
        b.due("status() of a new object", x.status(), 0);
        x.table(0);
        b.due("status()", x.status(), 2);
        b.due("status() again", x.status(), 2);
    }

    private void everyStatus() {
        b.says(38, "STATUS.", "0 it wasn't; 1 there is none such; 2 a number; 3 a QUESTION of other places; 4 no room; 5 MANY; 6 it isn't told (COUNT with a CLOSE;"
            + " more than 16 FACTS; a FACT that is never to blame); 7 another thing lies there.");
        WhereFrom x = Boundary.unlikeRows(33);
        refused(x, "a fact of no table", x.fact(1, 0, 0, 0, 0), 1);
        refused(x, "a table of five places", x.table(5), 2);
        refused(x, "CLOSE of one place", x.close(0), 3);
        refused(x, "33 answers", x.ask(0), 5);
        refused(x, "a thing where nothing lies", x.taken(0, 1, 0), 7);
        x.table(2);
        x.fact(1, 1, 2, 0, 0);
        x.fact(1, 2, 3, 0, 0);
        x.base(1);
        x.ask(1);
        refused(x, "a FACT that is never to blame", x.blame(0, 0), 6);
        x.ask(x.close(1));
        b.due("COUNT with a CLOSE", x.count(0), 0);
        b.due("its status", x.status(), 6);
        WhereFrom seventeen = Boundary.chain(17);
        refused(seventeen, "more than 16 FACTS", seventeen.chance(0), 6);
        for (int k = x.size(0); k < 10; k++) {
            b.yes(x, "a table", x.table(1), k);
        }
        refused(x, "an eleventh table", x.table(1), 4);
        b.yes(x, "a call that is accepted", x.lies(0), 0);
    }

    private void refused(WhereFrom x, String call, long got, int why) {
        b.due(call, got, -1);
        b.due("status behind " + call, x.status(), why);
    }

    private void statusIsLeftAlone() {
        b.says(38, "STATUS of the latest call that may be refused");
        WhereFrom x = Boundary.house();
        for (int round = 0; round < 2; round++) {
            int due = round == 0 ? 4 : 0;
            if (round == 0) {
                for (int k = 2; k < 11; k++) {
                    x.table(1);
                }
            } else {
                x.lies(0);
            }
            b.due("status", x.status(), due);
            leave("told", x, x.told(-1, -1), due);
            leave("kind", x, x.kind(-1, -1), due);
            leave("value", x, x.value(-1, -1), due);
            leave("find", x, x.find(-1, -1, 0, 0, 0, 0), due);
            leave("ways", x, x.ways(-1), due);
            leave("way", x, x.way(-1, -1), due);
            leave("need", x, x.need(-1), due);
            leave("without", x, x.without(0L), due);
            leave("size", x, x.size(-1), due);
            leave("undo", x, x.undo(), due);
        }
        WhereFrom empty = new WhereFrom();
        empty.table(0);
        leave("undo of none", empty, empty.undo(), 2);
    }

    private void leave(String call, WhereFrom x, long answer, int due) {
        b.due("status behind " + call + ", which answered " + answer + " and is never refused", x.status(), due);
    }

    /** A right call behind a refused one: the status is 0 again. */
    private void accepted(String call, ToLongFunction<WhereFrom> made, long answer) {
        WhereFrom x = Boundary.house();
        x.table(0);
        b.due("status behind a refused call", x.status(), 2);
        b.yes(x, call, made.applyAsLong(x), answer);
    }

    private void statusOfAccepted() {
        b.says(38, OF_THE_LATEST);
        accepted("table", x -> x.table(1), 2);
        accepted("fact", x -> x.fact(0, 1, 2, 0, 0), 3);
        accepted("drop", x -> x.drop(0, true) ? 1 : 0, 1);
        accepted("put", x -> x.put(0, 0, 0) ? 1 : 0, 1);
        accepted("base", x -> x.base(1), 3);
        accepted("pick", x -> x.pick(0, 0, 1), 3);
        accepted("like", x -> x.like(0, 0, 1), 3);
        accepted("cut", x -> x.cut(0, 1, 0, 0, 0, 0), 3);
        accepted("pair", x -> x.pair(0, 0, 0, 0), 3);
        accepted("either", x -> x.either(0, 2), 3);
        accepted("close", x -> x.close(0), 3);
        accepted("most", x -> x.most(0, 2), 3);
        accepted("ask", x -> x.ask(2), 3);
        accepted("count", x -> x.count(0), 1);
        accepted("cost", x -> x.cost(1), 20);
        accepted("trust", x -> x.trust(0), Boundary.HALF);
        accepted("stays, 0", x -> x.stays(1), 0);
        accepted("with, 0", x -> x.with(0, 0L), 0);
        accepted("chance", x -> x.chance(0), Boundary.WHOLE / 2);
        accepted("share", x -> x.share(0, 0), Boundary.WHOLE);
        accepted("share, 0", x -> x.share(0, 2), 0);
        accepted("least", x -> x.least(0), 1);
        accepted("blame, 0", x -> x.blame(0, 0), 0);
        accepted("lay", x -> x.lay(0, 0, 0), 1);
        accepted("lies, 0", x -> x.lies(19), 0);
        accepted("taken", x -> x.taken(2, 3, 0), 1);
        accepted("copy", x -> x.copy(2, 0, 2, 1, 1), 1);
    }
}
