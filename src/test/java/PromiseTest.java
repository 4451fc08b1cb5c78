/** The promises one by one: ordinary inputs, the edges that the document names, and wrong inputs. */
public final class PromiseTest {
    private static final Check C = new Check("PromiseTest");
    private static final int MIN = Integer.MIN_VALUE;
    private static final int MAX = Integer.MAX_VALUE;
    private static final long ONE = Double.doubleToRawLongBits(1.0);
    private static final long HALF = Double.doubleToRawLongBits(0.5);
    private static final long QUARTER = Double.doubleToRawLongBits(0.25);
    private static final long WHOLE = 281474976710656L;

    public static void main(String[] args) {
        p01();
        p02();
        p03();
        p04();
        p05();
        p06();
        p07();
        p08();
        p09();
        p10();
        p11();
        p12();
        p13();
        p13Rounds();
        p13Backwards();
        p14();
        p15();
        p16();
        p16Many();
        p17to21();
        p22();
        p23();
        p24();
        p25to27();
        p28();
        p29();
        p30();
        p31();
        sixteenWays();
        p32();
        p33();
        p34();
        p35();
        p36();
        p36Hundred();
        p37();
        p38();
        p38Accepted();
        C.end();
    }

    /** A refused call: NONE, and why. */
    private static void no(WhereFrom x, String call, long got, int why) {
        C.due(call, got, -1);
        C.due("status behind " + call, x.status(), why);
    }

    private static void yes(WhereFrom x, String call, long got, long want) {
        C.due(call, got, want);
        C.due("status behind " + call, x.status(), 0);
    }

    /** A table of two places with these rows, its BASE as question 0. */
    private static WhereFrom pairs(int... values) {
        WhereFrom x = new WhereFrom();
        x.table(2);
        for (int k = 0; k + 1 < values.length; k += 2) {
            x.fact(0, values[k], values[k + 1], 0, 0);
        }
        x.base(0);
        return x;
    }

    private static void row(WhereFrom x, String what, int i, int... values) {
        for (int k = 0; k < values.length; k++) {
            C.due(what + ": value " + k + " of answer " + i, x.value(i, k), values[k]);
        }
    }

    private static void ways(WhereFrom x, String what, int i, long... ways) {
        C.due(what + ": ways of answer " + i, x.ways(i), ways.length);
        for (int k = 0; k < ways.length; k++) {
            C.due(what + ": way " + k + " of answer " + i, x.way(i, k), ways[k]);
        }
    }

    private static void p01() {
        WhereFrom x = new WhereFrom();
        C.due("status() of a new object", x.status(), 0);
        for (int what = 0; what < 5; what++) {
            C.due("size(" + what + ") of a new object", x.size(what), 0);
        }
        for (int k = 0; k < 20; k++) {
            C.due("lies(" + k + ") of a new object", x.lies(k), 0);
        }
        C.due("undo() of a new object", x.undo(), 0);
        C.due("find of a new object", x.find(0, 0, 0, 0, 0, 0), -1);
        C.due("ways of a new object", x.ways(0), -1);
        C.due("value of a new object", x.value(0, 0), 0);
        C.due("without of a new object", x.without(0L), 0);
        no(x, "ask(0) of a new object", x.ask(0), 1);
        C.due("told of a new object", x.told(0, 0), -1);
        C.due("kind of a new object", x.kind(0, 0), -1);
        WhereFrom y = new WhereFrom();
        y.table(1);
        C.due("another object is untouched", x.size(0), 0);
    }

    private static void p02() {
        WhereFrom x = new WhereFrom();
        int[] wrong = {0, 5, -1, MIN, MAX};
        for (int places : wrong) {
            no(x, "table(" + places + ")", x.table(places), 2);
        }
        C.due("acts behind refused ones", x.size(4), 0);
        for (int k = 0; k < 10; k++) {
            yes(x, "table " + k, x.table(k % 4 + 1), k);
        }
        no(x, "an eleventh table", x.table(1), 4);
        no(x, "an eleventh table of no places", x.table(0), 2);
        for (int k = 0; k < 10; k++) {
            x.fact(k, 1, 2, 3, 4);
            C.due("places of table " + k, x.told(k, 6), k % 4 + 1);
        }
    }

    private static void p03() {
        WhereFrom x = new WhereFrom();
        no(x, "fact without a table", x.fact(0, 0, 0, 0, 0), 1);
        x.table(3);
        no(x, "fact of table -1", x.fact(-1, 0, 0, 0, 0), 1);
        no(x, "fact of table 1", x.fact(1, 0, 0, 0, 0), 1);
        for (int k = 0; k < 60; k++) {
            yes(x, "fact " + k, x.fact(0, MIN, k, MAX, 7), k);
        }
        no(x, "a 61st fact", x.fact(0, 0, 0, 0, 0), 4);
        no(x, "a 61st fact of no table", x.fact(9, 0, 0, 0, 0), 1);
        C.due("its first value", x.told(59, 7), MIN);
        C.due("its second value", x.told(59, 8), 59);
        C.due("its third value", x.told(59, 9), MAX);
        C.due("its fourth value is none", x.told(59, 10), -1);
    }

    private static void p04() {
        WhereFrom x = pairs(1, 2, 3, 4);
        C.due("drop of none", x.drop(2, true), false);
        C.due("status", x.status(), 1);
        C.due("drop(-1)", x.drop(-1, true), false);
        C.due("status", x.status(), 1);
        C.due("drop(1, true)", x.drop(1, true), true);
        C.due("status", x.status(), 0);
        C.due("1 is dropped", x.told(1, 4), 1);
        C.due("0 isn't", x.told(0, 4), 0);
        C.due("again", x.drop(1, true), true);
        C.due("still dropped", x.told(1, 4), 1);
        C.due("no more", x.drop(1, false), true);
        C.due("no more dropped", x.told(1, 4), 0);
        C.due("all three were acts", x.size(4), 7);
    }

    private static void p05() {
        WhereFrom x = pairs(1, 2);
        long[][] good = {{0, 0}, {0, 9}, {1, 0}, {1, 1000}, {2, 0}, {2, ONE}, {2, 1}, {2, HALF}, {3, 0}, {3, 8}};
        for (long[] g : good) {
            C.due("put(0, " + g[0] + ", " + g[1] + ")", x.put(0, (int) g[0], g[1]), true);
            C.due("status", x.status(), 0);
            C.due("told", x.told(0, (int) g[0]), g[1]);
        }
        long negativeZero = Double.doubleToRawLongBits(-0.0);
        long[][] bad = {{0, -1}, {0, 10}, {1, -1}, {1, 1001}, {2, ONE + 1}, {2, negativeZero}, {2, -1}, {2, Double.doubleToRawLongBits(Double.NaN)},
            {2, Double.doubleToRawLongBits(-0.5)}, {2, Double.doubleToRawLongBits(Double.POSITIVE_INFINITY)}, {2, Long.MAX_VALUE}, {3, -1}, {3, 9},
            {0, 1L << 32}, {3, Long.MIN_VALUE}, {4, 0}, {-1, 0}, {MAX, 0}, {MIN, 0}};
        int acts = x.size(4);
        for (long[] b : bad) {
            C.due("put(0, " + b[0] + ", " + b[1] + ")", x.put(0, (int) b[0], b[1]), false);
            C.due("status", x.status(), 2);
        }
        C.due("put of no fact, no such weight", x.put(1, 9, 99), false);
        C.due("1 goes before 2", x.status(), 1);
        C.due("no acts", x.size(4), acts);
        C.due("COUNT as it was", x.told(0, 0), 9);
        C.due("COST as it was", x.told(0, 1), 1000);
        C.due("TRUST as it was", x.told(0, 2), HALF);
        C.due("CHANCE as it was", x.told(0, 3), 8);
    }

    private static void p06() {
        WhereFrom x = new WhereFrom();
        x.table(1);
        x.table(4);
        x.fact(0, -5, 6, 7, 8);
        x.fact(1, -5, 6, 7, 8);
        long[] first = {1, 1, ONE, 4, 0, 0, 1, -5, -1, -1, -1, -1, -1};
        long[] second = {1, 1, ONE, 4, 0, 1, 4, -5, 6, 7, 8, -1, -1};
        for (int what = 0; what < 13; what++) {
            C.due("told(0, " + what + ")", x.told(0, what), first[what]);
            C.due("told(1, " + what + ")", x.told(1, what), second[what]);
        }
        C.due("told(0, -1)", x.told(0, -1), -1);
        C.due("told(0, MIN)", x.told(0, MIN), -1);
        C.due("told(0, MAX)", x.told(0, MAX), -1);
        C.due("told(2, 0)", x.told(2, 0), -1);
        C.due("told(-1, 4)", x.told(-1, 4), -1);
    }

    private static void p07() {
        WhereFrom x = new WhereFrom();
        no(x, "base of none", x.base(0), 1);
        x.table(2);
        x.table(2);
        no(x, "base(-1)", x.base(-1), 1);
        no(x, "base(2)", x.base(2), 1);
        x.fact(0, 5, 1, 0, 0);
        x.fact(1, 9, 9, 0, 0);
        x.fact(0, -5, 1, 0, 0);
        x.fact(0, 5, 0, 0, 0);
        x.fact(0, 5, 1, 3, 3);
        x.drop(2, true);
        yes(x, "base(0)", x.base(0), 0);
        yes(x, "base(0) again", x.base(0), 1);
        yes(x, "ask", x.ask(0), 3);
        row(x, "base", 0, -5, 1);
        row(x, "base", 1, 5, 0);
        row(x, "base", 2, 5, 1);
        ways(x, "base, a dropped fact", 0, 4);
        ways(x, "base", 2, 1, 16);
        C.due("an empty table", x.base(x.table(4)), 2);
        yes(x, "ask", x.ask(2), 0);
    }

    private static void p08() {
        WhereFrom x = pairs(1, 2, 1, 3, 2, 2);
        no(x, "pick of none", x.pick(1, 0, 0), 1);
        no(x, "pick(-1)", x.pick(-1, 9, 0), 1);
        no(x, "place -1", x.pick(0, -1, 0), 2);
        no(x, "place 2", x.pick(0, 2, 0), 2);
        yes(x, "pick 1 at 0", x.pick(0, 0, 1), 1);
        yes(x, "pick 2 at 1", x.pick(0, 1, 2), 2);
        yes(x, "pick 9 at 1", x.pick(0, 1, 9), 3);
        yes(x, "ask", x.ask(1), 2);
        row(x, "pick", 0, 1, 2);
        row(x, "pick", 1, 1, 3);
        yes(x, "ask", x.ask(2), 2);
        row(x, "pick", 1, 2, 2);
        ways(x, "pick", 1, 4);
        yes(x, "ask", x.ask(3), 0);
    }

    private static void p09() {
        WhereFrom x = pairs(1, 2, 3, 3, 2, 2);
        no(x, "like of none", x.like(1, 0, 0), 1);
        no(x, "one -1", x.like(0, -1, 0), 2);
        no(x, "other 2", x.like(0, 0, 2), 2);
        no(x, "1 before 2", x.like(7, 0, 2), 1);
        yes(x, "like", x.like(0, 0, 1), 1);
        yes(x, "a place like itself", x.like(0, 1, 1), 2);
        yes(x, "ask", x.ask(1), 2);
        row(x, "like", 0, 2, 2);
        row(x, "like", 1, 3, 3);
        ways(x, "like", 1, 2);
        yes(x, "ask", x.ask(2), 3);
    }

    private static void p10() {
        WhereFrom x = pairs(1, 2, 1, 3, 2, 1);
        no(x, "cut of none", x.cut(1, 1, 0, 0, 0, 0), 1);
        no(x, "n 0", x.cut(0, 0, 0, 0, 0, 0), 2);
        no(x, "n 5", x.cut(0, 5, 0, 0, 0, 0), 2);
        no(x, "first place", x.cut(0, 1, 2, 0, 0, 0), 2);
        no(x, "second place", x.cut(0, 2, 0, -1, 0, 0), 2);
        no(x, "third place", x.cut(0, 3, 0, 0, 2, 0), 2);
        no(x, "fourth place", x.cut(0, 4, 0, 0, 0, MAX), 2);
        yes(x, "the others are free", x.cut(0, 1, 0, -1, MAX, MIN), 1);
        yes(x, "the others are free", x.cut(0, 3, 1, 0, 1, MIN), 2);
        yes(x, "four", x.cut(0, 4, 1, 1, 1, 0), 3);
        C.due("places", x.kind(3, 1), 4);
        yes(x, "ask", x.ask(1), 2);
        row(x, "cut", 0, 1, 0);
        row(x, "cut", 1, 2, 0);
        ways(x, "cut", 0, 1, 2);
        yes(x, "ask", x.ask(2), 3);
        row(x, "cut", 0, 1, 2, 1);
        row(x, "cut", 1, 2, 1, 2);
        row(x, "cut", 2, 3, 1, 3);
        ways(x, "cut", 0, 4);
        yes(x, "ask", x.ask(3), 3);
        row(x, "cut", 2, 3, 3, 3, 1);
        yes(x, "four again", x.cut(0, 4, 0, 0, 0, 1), 4);
        yes(x, "the others are free", x.cut(0, 2, 1, 0, -1, -1), 5);
        yes(x, "ask", x.ask(4), 3);
        row(x, "cut", 1, 1, 1, 1, 3);
        // Ways of a row that hold those of another one that comes to it are not least.
        WhereFrom y = pairs(1, 1, 1, 2);
        int joined = y.pair(0, 0, 0, 0);
        int ones = y.cut(joined, 1, 0, 0, 0, 0);
        yes(y, "ask", y.ask(joined), 4);
        ways(y, "pair with itself", 0, 1);
        ways(y, "pair of two", 1, 3);
        yes(y, "ask", y.ask(ones), 1);
        ways(y, "cut", 0, 1, 2);
        C.due("COUNT of all that come to it", y.count(0), 4);
    }

    private static void p11() {
        WhereFrom x = new WhereFrom();
        x.table(2);
        x.table(1);
        x.table(4);
        x.fact(0, 1, 2, 0, 0);
        x.fact(0, 2, 3, 0, 0);
        x.fact(0, 1, 2, 0, 0);
        x.fact(1, 2, 0, 0, 0);
        x.fact(2, 2, 7, 8, 9);
        x.base(0);
        x.base(1);
        x.base(2);
        no(x, "pair of none", x.pair(3, 0, 0, 0), 1);
        no(x, "pair with none", x.pair(0, -1, 0, 0), 1);
        no(x, "place", x.pair(0, 1, 2, 0), 2);
        no(x, "like", x.pair(0, 1, 0, 1), 2);
        no(x, "2 before 3", x.pair(2, 2, 4, 0), 2);
        no(x, "8 places", x.pair(2, 2, 0, 0), 3);
        yes(x, "six places", x.pair(0, 2, 1, 0), 3);
        yes(x, "three places", x.pair(1, 0, 0, 0), 4);
        no(x, "seven places", x.pair(2, 4, 0, 0), 3);
        yes(x, "ask", x.ask(3), 1);
        row(x, "pair", 0, 1, 2, 2, 7, 8, 9);
        ways(x, "pair", 0, 17, 20);
        yes(x, "ask", x.ask(4), 1);
        row(x, "pair", 0, 2, 2, 3);
        ways(x, "pair", 0, 10);
        yes(x, "with itself", x.pair(0, 0, 1, 0), 5);
        yes(x, "ask", x.ask(5), 1);
        ways(x, "pair", 0, 3, 6);
        // Of the unions the least ones alone: {0} and {0, 1} of one row are {0}.
        yes(x, "like rows", x.pair(0, 0, 0, 0), 6);
        yes(x, "ask", x.ask(6), 2);
        ways(x, "pair with itself", 0, 1, 4);
        C.due("COUNT is the product of sums", x.count(0), 4);
    }

    private static void p12() {
        WhereFrom x = pairs(1, 2, 1, 3, 1, 2);
        x.table(1);
        x.fact(1, 5, 0, 0, 0);
        x.base(1);
        x.pick(0, 1, 2);
        x.cut(0, 2, 1, 0, 0, 0);
        no(x, "either of none", x.either(4, 0), 1);
        no(x, "either of none", x.either(0, -1), 1);
        no(x, "other places", x.either(0, 1), 3);
        yes(x, "either", x.either(0, 2), 4);
        yes(x, "either", x.either(0, 3), 5);
        yes(x, "ask", x.ask(4), 2);
        ways(x, "either", 0, 1, 4);
        C.due("COUNT", x.count(0), 4);
        C.due("COUNT", x.count(1), 1);
        yes(x, "ask", x.ask(5), 4);
        row(x, "either", 0, 1, 2);
        row(x, "either", 1, 1, 3);
        row(x, "either", 2, 2, 1);
        row(x, "either", 3, 3, 1);
    }

    private static void p13() {
        WhereFrom x = pairs(1, 2, 2, 3, 3, 1, 3, 4);
        x.table(3);
        x.base(1);
        no(x, "close of none", x.close(2), 1);
        no(x, "three places", x.close(1), 3);
        yes(x, "close", x.close(0), 2);
        yes(x, "ask", x.ask(2), 12);
        int loop = x.find(1, 1, 0, 0, 0, 0);
        ways(x, "round", loop, 7);
        C.due("COST of three", x.cost(loop), 3);
        ways(x, "through three", x.find(1, 4, 0, 0, 0, 0), 11);
        C.due("not from the end", x.find(4, 1, 0, 0, 0, 0), -1);
        yes(x, "close of close", x.close(2), 3);
        yes(x, "ask", x.ask(3), 12);
        // The dearer single row: the least of all chains.
        WhereFrom y = pairs(1, 3, 1, 2, 2, 3);
        y.put(0, 1, 10);
        y.put(1, 1, 4);
        y.put(2, 1, 5);
        y.put(0, 2, QUARTER);
        y.put(1, 2, HALF);
        y.close(0);
        yes(y, "ask", y.ask(1), 3);
        C.due("the cheaper chain", y.cost(1), 9);
        C.due("the chain of more trust", y.trust(1), HALF);
        ways(y, "both", 1, 1, 6);
        y.put(2, 1, 7);
        y.put(2, 2, 0);
        y.ask(1);
        C.due("the cheaper row", y.cost(1), 10);
        C.due("the row of more trust", y.trust(1), QUARTER);
    }

    /** A chain can be cheaper when its ways are no news: its readings go on when the ways have ended. */
    private static void p13Rounds() {
        // One fact: cuts and pairs of it with itself give steps that all have the one way.
        WhereFrom y = new WhereFrom();
        y.table(4);
        y.fact(0, 1, 2, 3, 9);
        y.put(0, 1, 7);
        int b = y.base(0);
        int onetwo = y.cut(b, 2, 0, 1, 0, 0);
        int twothree = y.cut(b, 2, 1, 2, 0, 0);
        int wide = y.pair(onetwo, twothree, 1, 0);
        int wider = y.pair(wide, onetwo, 0, 0);
        int dear = y.cut(wider, 2, 0, 3, 0, 0);
        int steps = y.either(y.either(onetwo, twothree), dear);
        int closed = y.close(steps);
        yes(y, "ask", y.ask(steps), 3);
        C.due("three times the fact", y.cost(1), 21);
        yes(y, "ask", y.ask(closed), 3);
        ways(y, "one way", 1, 1);
        C.due("two times the fact", y.cost(1), 14);
    }

    /** Steps 9-8, 8-7 .. 2-1: a chain's shorter part always comes behind it in the order of the rows. */
    private static void p13Backwards() {
        WhereFrom x = new WhereFrom();
        x.table(2);
        for (int k = 0; k < 5; k++) {
            x.fact(0, k == 0 ? 0 : 10 - k, 9 - k, 0, 0);
            x.put(k, 1, k + 1);
            x.put(k, 2, 0);
        }
        x.close(x.base(0));
        yes(x, "ask", x.ask(1), 15);
        C.due("the last one comes first", x.value(0, 1), 5);
        C.due("COST of all five", x.cost(0), 15);
        C.due("TRUST of all five", x.trust(0), 0);
        C.due("COST of four", x.cost(x.find(0, 6, 0, 0, 0, 0)), 10);
        // Steps of no cost and a quarter of trust to all ends: the COST is there at once, the TRUST by the chains.
        for (int k = 0; k < 5; k++) {
            x.put(k, 2, k == 3 ? HALF : ONE);
            x.fact(0, 0, 9 - k, 0, 0);
            x.put(5 + k, 1, 0);
            x.put(5 + k, 2, QUARTER);
        }
        yes(x, "ask", x.ask(1), 15);
        C.due("COST of the single step", x.cost(0), 0);
        C.due("TRUST of the chain", x.trust(0), HALF);
        C.due("TRUST of its beginning", x.trust(x.find(0, 7, 0, 0, 0, 0)), ONE);
    }

    private static void p14() {
        WhereFrom x = pairs(1, 2, 1, 3, 1, 2, 4, 4);
        x.table(1);
        x.base(1);
        x.pick(0, 1, 2);
        no(x, "most of none", x.most(3, 0), 1);
        no(x, "most of none", x.most(0, -1), 1);
        no(x, "other places", x.most(0, 1), 3);
        yes(x, "most", x.most(0, 2), 3);
        yes(x, "ask", x.ask(3), 2);
        row(x, "most", 0, 1, 3);
        row(x, "most", 1, 4, 4);
        x.drop(0, true);
        yes(x, "one way is whole still", x.ask(3), 2);
        x.drop(2, true);
        yes(x, "the second one is not TRUE", x.ask(3), 3);
        ways(x, "as the first one's", 0, 1, 4);
        C.due("as the first one's", x.count(0), 2);
        C.due("it is an answer, if not TRUE", x.stays(0), 0);
        x.drop(0, false);
        C.due("the answers stay as they were told", x.size(3), 3);
        yes(x, "ask", x.ask(3), 2);
    }

    private static void p15() {
        WhereFrom x = pairs(1, 2);
        x.table(3);
        x.pick(0, 0, 1);
        x.like(1, 0, 1);
        x.cut(2, 1, 0, 0, 0, 0);
        x.pair(1, 3, 0, 0);
        x.either(2, 0);
        x.close(5);
        x.most(6, 1);
        x.most(1, 6);
        x.base(1);
        x.cut(7, 3, 0, 0, 1, 0);
        int[][] due = {{0, 2, 0, -1, 0}, {1, 2, 0, -1, 0}, {2, 2, 1, -1, 0}, {3, 1, 2, -1, 0}, {4, 3, 1, 3, 0}, {5, 2, 2, 0, 0}, {6, 2, 5, -1, 1},
            {7, 2, 6, 1, 1}, {7, 2, 1, 6, 1}, {0, 3, 1, -1, 0}, {3, 3, 7, -1, 1}};
        for (int q = 0; q < due.length; q++) {
            for (int what = 0; what < 5; what++) {
                C.due("kind(" + q + ", " + what + ")", x.kind(q, what), due[q][what]);
            }
            C.due("kind(" + q + ", 5)", x.kind(q, 5), -1);
            C.due("kind(" + q + ", -1)", x.kind(q, -1), -1);
        }
        C.due("kind of none", x.kind(11, 0), -1);
        C.due("kind(-1)", x.kind(-1, 0), -1);
        for (int q = 11; q < 40; q++) {
            yes(x, "question " + q, x.close(0), q);
        }
        no(x, "base, no room", x.base(0), 4);
        no(x, "pick, no room", x.pick(0, 0, 0), 4);
        no(x, "like, no room", x.like(0, 0, 0), 4);
        no(x, "cut, no room", x.cut(0, 1, 0, 0, 0, 0), 4);
        no(x, "pair, no room", x.pair(0, 0, 0, 0), 4);
        no(x, "either, no room", x.either(0, 0), 4);
        no(x, "close, no room", x.close(0), 4);
        no(x, "most, no room", x.most(0, 0), 4);
        no(x, "4 at last", x.pair(0, 0, 0, 2), 2);
        no(x, "4 at last", x.close(9), 3);
        no(x, "4 at last", x.base(2), 1);
    }

    private static void p16() {
        WhereFrom x = pairs(1, 2, 0, 3);
        no(x, "ask(-1)", x.ask(-1), 1);
        no(x, "ask(1)", x.ask(1), 1);
        C.due("none were told", x.size(3), 0);
        yes(x, "ask(0)", x.ask(0), 2);
        x.fact(0, 5, 5, 0, 0);
        C.due("as they were when asked", x.size(3), 2);
        no(x, "ask(7)", x.ask(7), 1);
        C.due("the latest ones stay", x.size(3), 2);
        row(x, "the latest ones stay", 0, 0, 3);
        yes(x, "ask(0)", x.ask(0), 3);
        // Each question within is worked once: forty of them, each of the one before it, twice.
        WhereFrom y = pairs(1, 1);
        for (int q = 1; q < 40; q++) {
            y.either(q - 1, q - 1);
        }
        yes(y, "ask(39)", y.ask(39), 1);
        C.due("COUNT doubles", y.count(0), 1L << 39);
    }

    private static void p16Many() {
        WhereFrom x = new WhereFrom();
        x.table(1);
        x.table(1);
        for (int k = 0; k < 32; k++) {
            x.fact(0, k, 0, 0, 0);
        }
        x.base(0);
        x.pick(0, 0, 5);
        yes(x, "32 answers", x.ask(0), 32);
        x.fact(0, 32, 0, 0, 0);
        no(x, "33 answers", x.ask(0), 5);
        C.due("the latest ones stay", x.size(3), 32);
        no(x, "within it", x.ask(1), 5);
        x.base(1);
        no(x, "within the second one", x.ask(x.most(2, 0)), 5);
        no(x, "within a pair of none", x.ask(x.pair(2, 0, 0, 0)), 5);
        x.undo();
        x.undo();
        yes(x, "the second one by itself", x.ask(2), 0);
        WhereFrom y = new WhereFrom();
        y.table(1);
        for (int k = 0; k < 16; k++) {
            y.fact(0, 1, 0, 0, 0);
        }
        y.base(0);
        yes(y, "16 ways", y.ask(0), 1);
        C.due("16 ways", y.ways(0), 16);
        y.fact(0, 1, 0, 0, 0);
        no(y, "17 ways", y.ask(0), 5);
        // 5 times 4 unions are 20 least ones.
        WhereFrom z = new WhereFrom();
        z.table(1);
        z.table(1);
        for (int k = 0; k < 5; k++) {
            z.fact(0, 1, 0, 0, 0);
        }
        for (int k = 0; k < 4; k++) {
            z.fact(1, 1, 0, 0, 0);
        }
        z.base(0);
        z.base(1);
        z.pair(0, 1, 0, 0);
        no(z, "20 ways", z.ask(2), 5);
        z.undo();
        // 5 ways with themselves are 15 unions, of which the 5 are the least.
        z.pair(0, 0, 0, 0);
        yes(z, "25 unions, 5 least", z.ask(2), 1);
        C.due("5 least", z.ways(0), 5);
        manyInRounds();
        manyInOneRound();
        manyThatMelt();
    }

    /** CLOSE with more than 32 answers; and with more than 16 ways behind a round alone. */
    private static void manyInRounds() {
        WhereFrom x = new WhereFrom();
        x.table(2);
        for (int k = 0; k < 7; k++) {
            x.fact(0, k, k + 1, 0, 0);
        }
        x.close(x.base(0));
        yes(x, "28 chains", x.ask(1), 28);
        x.fact(0, 7, 8, 0, 0);
        no(x, "36 chains", x.ask(1), 5);
        // Two steps with 5 and 4 ways make 20 ways of the chain.
        WhereFrom y = new WhereFrom();
        y.table(2);
        for (int k = 0; k < 5; k++) {
            y.fact(0, 1, 2, 0, 0);
        }
        for (int k = 0; k < 4; k++) {
            y.fact(0, 2, 3, 0, 0);
        }
        y.close(y.base(0));
        no(y, "20 ways of a chain", y.ask(1), 5);
        WhereFrom z = rounds(4);
        yes(z, "ask", z.ask(z.size(2) - 1), 8);
        C.due("behind the last round one way is left", z.ways(z.find(1, 3, 0, 0, 0, 0)), 1);
        WhereFrom w = rounds(5);
        no(w, "20 ways behind the second round, one behind the third", w.ask(w.size(2) - 1), 5);
    }

    /**
     * Steps 1-2 (by h and one of some), 2-3 (by one of four), and 1-5, 5-6, 6-3 by h alone: the chain 1-3 has
     * some times four ways behind the second round, and behind the third h alone, which is in all of them.
     */
    private static WhereFrom rounds(int some) {
        WhereFrom x = new WhereFrom();
        x.table(4);
        x.table(2);
        x.table(3);
        x.fact(0, 1, 5, 6, 3);
        for (int k = 0; k < some; k++) {
            x.fact(1, 1, 2, 0, 0);
        }
        for (int k = 0; k < 4; k++) {
            x.fact(2, 2, 3, 0, 0);
        }
        int h = x.base(0);
        int first = x.cut(x.pair(x.cut(h, 1, 0, 0, 0, 0), x.base(1), 0, 0), 2, 1, 2, 0, 0);
        int second = x.cut(x.base(2), 2, 0, 1, 0, 0);
        int a = x.cut(h, 2, 0, 1, 0, 0);
        int b = x.cut(h, 2, 1, 2, 0, 0);
        int c = x.cut(h, 2, 2, 3, 0, 0);
        x.close(x.either(x.either(first, second), x.either(a, x.either(b, c))));
        return x;
    }

    /**
     * 1-3, 1-4, 1-5 and from there to 2 by 16 ways each, with h in all of the first ones: 768 least ways come to the
     * chain 1-2, then z by way of 6, and h by way of 7, which leaves z and h alone.
     */
    private static void manyInOneRound() {
        WhereFrom x = new WhereFrom();
        for (int t = 0; t < 4; t++) {
            x.table(2);
            for (int k = 0; k < 12; k++) {
                x.fact(t, t < 2 ? 1 : 3 + k % 3, t < 2 ? 3 + k % 3 : 2, 0, 0);
            }
        }
        x.table(3);
        int h = x.fact(4, 1, 7, 2, 0);
        int z = x.fact(4, 1, 6, 2, 0);
        int first = x.cut(x.pair(x.base(0), x.base(1), 1, 1), 2, 0, 1, 0, 0);
        int second = x.cut(x.pair(x.base(2), x.base(3), 0, 0), 2, 0, 1, 0, 0);
        int both = x.base(4);
        int firstWithH = x.cut(x.pair(first, x.pick(both, 1, 7), 0, 0), 2, 0, 1, 0, 0);
        int round = x.either(x.cut(both, 2, 0, 1, 0, 0), x.cut(both, 2, 1, 2, 0, 0));
        int steps = x.either(x.either(firstWithH, second), round);
        yes(x, "the steps", x.ask(steps), 10);
        C.due("16 ways of a step", x.ways(0), 16);
        yes(x, "the chains", x.ask(x.close(steps)), 11);
        ways(x, "z and h", x.find(1, 2, 0, 0, 0, 0), 1L << h, 1L << z);
    }

    /** More than 16 ways come to a row of CUT, but the least ones are few: asked of these alone. */
    private static void manyThatMelt() {
        WhereFrom x = new WhereFrom();
        x.table(2);
        for (int k = 0; k < 5; k++) {
            x.fact(0, 1, k, 0, 0);
        }
        x.base(0);
        x.pair(0, 0, 0, 0);
        x.cut(1, 1, 0, 0, 0, 0);
        yes(x, "25 rows", x.ask(1), 25);
        yes(x, "15 sets come to it", x.ask(2), 1);
        ways(x, "five least ones", 0, 1, 2, 4, 8, 16);
        C.due("COUNT of all 25", x.count(0), 25);
        // 20 sets {k, m} are ahead of the single ones in the order of the rows.
        WhereFrom y = new WhereFrom();
        y.table(2);
        y.table(2);
        for (int k = 0; k < 5; k++) {
            y.fact(0, 1, k, 0, 0);
        }
        for (int k = 0; k < 4; k++) {
            y.fact(1, 1, k, 0, 0);
        }
        y.base(0);
        y.base(1);
        y.pair(0, 1, 0, 0);
        y.cut(2, 1, 0, 0, 0, 0);
        no(y, "20 least ones", y.ask(3), 5);
        y.cut(0, 1, 0, 0, 0, 0);
        y.pair(4, 4, 0, 0);
        yes(y, "ask", y.ask(5), 1);
        C.due("5 least ones of 25", y.ways(0), 5);
        hundredsThatMelt();
    }

    /** 30 rows of 16 ways, with h in all of them, then z and h by themselves: 482 come to one row, and two are left. */
    private static void hundredsThatMelt() {
        WhereFrom x = new WhereFrom();
        x.table(2);
        x.table(2);
        x.table(2);
        for (int k = 0; k < 24; k++) {
            x.fact(0, 1, k % 6, 0, 0);
        }
        for (int k = 0; k < 20; k++) {
            x.fact(1, 1, k % 5, 0, 0);
        }
        int h = x.fact(2, 1, 99, 0, 0);
        int z = x.fact(2, 1, 98, 0, 0);
        int both = x.base(2);
        int justH = x.cut(x.pick(both, 1, 99), 1, 0, 0, 0, 0);
        int wide = x.pair(x.pair(x.base(0), x.base(1), 0, 0), justH, 0, 0);
        int all = x.either(x.cut(wide, 3, 0, 1, 3, 0), x.cut(both, 3, 0, 1, 1, 0));
        yes(x, "32 rows", x.ask(all), 32);
        C.due("16 ways", x.ways(29), 16);
        yes(x, "one row", x.ask(x.cut(all, 1, 0, 0, 0, 0)), 1);
        ways(x, "z and h", 0, 1L << h, 1L << z);
        C.due("COUNT of all", x.count(0), 482);
    }

    private static void p17to21() {
        WhereFrom x = new WhereFrom();
        x.table(3);
        x.fact(0, 2, MIN, 5, 0);
        x.fact(0, 2, MAX, 5, 0);
        x.fact(0, -2, 0, 5, 0);
        x.fact(0, 2, MIN, -5, 0);
        x.fact(0, 2, MIN, 5, 0);
        x.base(0);
        yes(x, "ask", x.ask(0), 4);
        row(x, "order", 0, -2, 0, 5);
        row(x, "order", 1, 2, MIN, -5);
        row(x, "order", 2, 2, MIN, 5);
        row(x, "order", 3, 2, MAX, 5);
        C.due("value(4, 0)", x.value(4, 0), 0);
        C.due("value(-1, 0)", x.value(-1, 0), 0);
        C.due("value(0, 3)", x.value(0, 3), 0);
        C.due("value(0, -1)", x.value(0, -1), 0);
        C.due("value(0, MAX)", x.value(0, MAX), 0);
        C.due("find", x.find(2, MIN, 5, 1, 2, 3), 2);
        C.due("find", x.find(-2, 0, 5, 0, 0, 0), 0);
        C.due("find none", x.find(2, 0, 5, 0, 0, 0), -1);
        C.due("ways(2)", x.ways(2), 2);
        C.due("ways(4)", x.ways(4), -1);
        C.due("ways(-1)", x.ways(-1), -1);
        C.due("way(2, 0)", x.way(2, 0), 1);
        C.due("way(2, 1)", x.way(2, 1), 16);
        C.due("way(2, 2)", x.way(2, 2), 0);
        C.due("way(2, -1)", x.way(2, -1), 0);
        C.due("way(4, 0)", x.way(4, 0), 0);
        C.due("way(MIN, 0)", x.way(MIN, 0), 0);
        C.due("need(2)", x.need(2), 0);
        C.due("need(0)", x.need(0), 4);
        C.due("need(4)", x.need(4), 0);
        C.due("need(-1)", x.need(-1), 0);
        // Six values: the last ones count too.
        x.pair(0, 0, 0, 0);
        yes(x, "ask", x.ask(1), 10);
        C.due("find six", x.find(2, MIN, 5, 2, MAX, 5), 6);
        C.due("find six", x.find(2, MIN, 5, 2, MAX, 6), -1);
        C.due("NEED of unions", x.need(6), 2);
        ways(x, "bits in order", 6, 3, 18);
    }

    private static void p22() {
        WhereFrom x = pairs(1, 2, 1, 2, 2, 3);
        x.put(0, 0, 9);
        x.put(1, 0, 0);
        x.put(2, 0, 7);
        x.drop(0, true);
        x.ask(0);
        yes(x, "the sum", x.count(0), 9);
        yes(x, "a fact's", x.count(1), 7);
        x.put(0, 0, 3);
        yes(x, "by the weights at ask()", x.count(0), 9);
        C.due("count(2)", x.count(2), 0);
        C.due("status", x.status(), 1);
        C.due("count(-1)", x.count(-1), 0);
        C.due("status", x.status(), 1);
        x.pair(0, 0, 1, 0);
        x.ask(1);
        yes(x, "the product", x.count(0), 21);
        x.close(0);
        x.ask(2);
        C.due("with a CLOSE", x.count(0), 0);
        C.due("status", x.status(), 6);
        C.due("1 goes before 6", x.count(9), 0);
        C.due("status", x.status(), 1);
        x.pick(2, 0, 1);
        x.ask(3);
        C.due("with a CLOSE within", x.count(0), 0);
        C.due("status", x.status(), 6);
        x.most(0, 3);
        x.ask(4);
        C.due("with a CLOSE within the second one", x.count(0), 0);
        C.due("status", x.status(), 6);
        x.ask(0);
        x.undo();
        yes(x, "no CLOSE in the latest one", x.count(1), 7);
        // Longs that wrap: 9 to the 32nd and the next square.
        WhereFrom y = new WhereFrom();
        y.table(1);
        y.fact(0, 1, 0, 0, 0);
        y.put(0, 0, 9);
        int q = y.base(0);
        long due = 9;
        for (int k = 0; k < 7; k++) {
            q = y.cut(y.pair(q, q, 0, 0), 1, 0, 0, 0, 0);
            due *= due;
        }
        y.ask(q);
        yes(y, "a product that wraps", y.count(0), due);
    }

    private static void p23() {
        WhereFrom x = pairs(1, 2, 1, 2, 2, 3);
        x.put(0, 1, 1000);
        x.put(1, 1, 500);
        x.put(2, 1, 0);
        x.drop(1, true);
        x.ask(0);
        yes(x, "the least", x.cost(0), 500);
        yes(x, "a fact's", x.cost(1), 0);
        x.put(1, 1, 3);
        yes(x, "by the weights at ask()", x.cost(0), 500);
        no(x, "cost(2)", x.cost(2), 1);
        no(x, "cost(-1)", x.cost(-1), 1);
        x.pair(0, 0, 1, 0);
        x.put(2, 1, 20);
        x.ask(1);
        yes(x, "the sum", x.cost(0), 23);
        WhereFrom y = new WhereFrom();
        y.table(1);
        y.fact(0, 1, 0, 0, 0);
        y.put(0, 1, 1000);
        int q = y.base(0);
        for (int k = 0; k < 19; k++) {
            q = y.cut(y.pair(q, q, 0, 0), 1, 0, 0, 0, 0);
        }
        y.ask(q);
        yes(y, "2 to the 19th thousands", y.cost(0), 524288000);
        q = y.pair(q, q, 0, 0);
        y.ask(q);
        yes(y, "above a thousand millions", y.cost(0), 1000000000);
        costOfChains();
    }

    /** Steps 1-2, 2-3, 3-4 of some 262 millions each, and their chains: the sum of four is above the bound. */
    private static void costOfChains() {
        WhereFrom x = new WhereFrom();
        x.table(1);
        x.fact(0, 1, 0, 0, 0);
        x.put(0, 1, 1000);
        int q = x.base(0);
        for (int k = 0; k < 9; k++) {
            int two = x.pair(q, q, 0, 0);
            q = x.cut(x.pair(two, two, 0, 0), 1, 0, 0, 0, 0);
        }
        x.table(3);
        for (int k = 1; k < 5; k++) {
            x.fact(1, k, k + 1, 1, 0);
        }
        int big = x.cut(x.pair(x.base(1), q, 2, 0), 2, 0, 1, 0, 0);
        x.ask(big);
        yes(x, "a step", x.cost(0), 262144001);
        int closed = x.close(big);
        yes(x, "ask", x.ask(closed), 10);
        yes(x, "two steps", x.cost(x.find(1, 3, 0, 0, 0, 0)), 524288002);
        yes(x, "three steps", x.cost(x.find(1, 4, 0, 0, 0, 0)), 786432003);
        yes(x, "four steps", x.cost(x.find(1, 5, 0, 0, 0, 0)), 1000000000);
    }

    private static void p24() {
        WhereFrom x = pairs(1, 2, 1, 2, 2, 3);
        x.put(0, 2, QUARTER);
        x.put(1, 2, HALF);
        x.drop(1, true);
        x.ask(0);
        yes(x, "the greatest", x.trust(0), HALF);
        yes(x, "a fact's", x.trust(1), ONE);
        x.put(1, 2, 0);
        yes(x, "by the weights at ask()", x.trust(0), HALF);
        no(x, "trust(2)", x.trust(2), 1);
        no(x, "trust(-1)", x.trust(-1), 1);
        x.pair(0, 0, 1, 0);
        x.ask(1);
        yes(x, "the least", x.trust(0), QUARTER);
        x.put(0, 2, 0);
        x.ask(1);
        yes(x, "none at all", x.trust(0), 0);
    }

    private static void p25to27() {
        WhereFrom x = pairs(1, 2, 1, 2, 2, 3);
        x.pair(0, 0, 1, 0);
        x.ask(1);
        yes(x, "stays", x.stays(0), 1);
        x.drop(0, true);
        yes(x, "stays by the other way", x.stays(0), 1);
        x.drop(1, true);
        yes(x, "stays no more", x.stays(0), 0);
        x.undo();
        yes(x, "by what is now", x.stays(0), 1);
        no(x, "stays(1)", x.stays(1), 1);
        no(x, "stays(-1)", x.stays(-1), 1);
        yes(x, "with all", x.with(0, -1L), 1);
        yes(x, "with a dropped one", x.with(0, 5L), 1);
        yes(x, "with both of them", x.with(0, 6L), 1);
        yes(x, "with too few", x.with(0, 3L), 0);
        yes(x, "with none", x.with(0, 0L), 0);
        yes(x, "with others", x.with(0, -8L), 0);
        no(x, "with(1)", x.with(1, -1L), 1);
        no(x, "with(-1)", x.with(-1, -1L), 1);
        x.ask(0);
        C.due("without none", x.without(-1L), 0);
        C.due("without all", x.without(0L), 2);
        C.due("with fact 1 alone", x.without(2L), 1);
        C.due("with fact 2 alone", x.without(4L), 1);
        C.due("with facts 0 and 2", x.without(5L), 0);
        C.due("with others", x.without(-8L), 2);
    }

    /** One answer, whose one way has so many facts: the steps from 0 on, one behind the other. */
    private static WhereFrom chain(int facts) {
        WhereFrom x = new WhereFrom();
        x.table(2);
        for (int k = 0; k < facts; k++) {
            x.fact(0, k, k + 1, 0, 0);
        }
        int q = x.base(0);
        int all = x.pick(q, 0, 0);
        for (int k = 1; k < facts; k++) {
            all = x.cut(x.pair(all, q, 1, 0), 2, 0, 3, 0, 0);
        }
        x.ask(all);
        return x;
    }

    private static void p28() {
        WhereFrom x = pairs(1, 2, 1, 2, 2, 3);
        x.ask(0);
        yes(x, "one of two halves", x.chance(0), WHOLE / 4 * 3);
        x.put(0, 3, 3);
        x.put(1, 3, 1);
        yes(x, "by the weights now", x.chance(0), WHOLE / 64 * (64 - 5 * 7));
        x.put(1, 3, 8);
        yes(x, "surely", x.chance(0), WHOLE);
        x.put(2, 3, 0);
        yes(x, "surely not", x.chance(1), 0);
        no(x, "chance(2)", x.chance(2), 1);
        no(x, "chance(-1)", x.chance(-1), 1);
        x.put(1, 3, 4);
        x.put(2, 3, 7);
        x.pair(0, 0, 1, 0);
        x.ask(1);
        x.drop(0, true);
        yes(x, "dropped or not, together with the other", x.chance(0), WHOLE / 512 * ((64 - 5 * 4) * 7));
        WhereFrom y = chain(16);
        yes(y, "16 facts", y.chance(0), 4294967296L);
        C.due("16 facts", Long.bitCount(y.way(0, 0)), 16);
        for (int k = 0; k < 16; k++) {
            y.put(k, 3, 8);
        }
        yes(y, "16 sure facts", y.chance(0), WHOLE);
        y.put(15, 3, 1);
        yes(y, "an eighth", y.chance(0), WHOLE / 8);
        WhereFrom z = chain(17);
        C.due("17 facts", Long.bitCount(z.way(0, 0)), 17);
        no(z, "17 facts", z.chance(0), 6);
        no(z, "1 goes before 6", z.chance(1), 1);
        no(z, "least of 17 facts", z.least(0), 6);
        no(z, "share of 17 facts", z.share(0, 0), 6);
        no(z, "blame of 17 facts", z.blame(0, 0), 6);
        C.due("need of 17 facts", z.need(0), (1L << 17) - 1);
    }

    private static void p29() {
        WhereFrom x = pairs(1, 2, 1, 2, 2, 3);
        x.pair(0, 0, 1, 0);
        x.ask(1);
        x.put(0, 3, 2);
        x.put(1, 3, 0);
        x.put(2, 3, 5);
        // (0 or 1) and 2
        yes(x, "share of 0", x.share(0, 0), WHOLE / 8 * 5);
        yes(x, "share of 1, which surely isn't there", x.share(0, 1), WHOLE / 64 * 6 * 5);
        yes(x, "share of 2", x.share(0, 2), WHOLE / 8 * 2);
        x.put(2, 3, 8);
        yes(x, "by the weights now", x.share(0, 0), WHOLE);
        no(x, "share(1, 0)", x.share(1, 0), 1);
        no(x, "share(-1, 0)", x.share(-1, 0), 1);
        no(x, "share(0, 3)", x.share(0, 3), 1);
        no(x, "share(0, -1)", x.share(0, -1), 1);
        no(x, "share(0, 64)", x.share(0, 64), 1);
        x.fact(0, 7, 7, 0, 0);
        yes(x, "a fact in none of its ways", x.share(0, 3), 0);
        WhereFrom z = chain(17);
        no(z, "1 goes before 6", z.share(0, 17), 1);
        z.fact(0, 99, 99, 0, 0);
        no(z, "6 for one in none of its ways, too", z.share(0, 17), 6);
    }

    private static void p30() {
        WhereFrom x = pairs(1, 2, 1, 2, 2, 3, 2, 3);
        x.pair(0, 0, 1, 0);
        x.ask(1);
        ways(x, "two by two", 0, 5, 6, 9, 10);
        yes(x, "of as small ones the least number", x.least(0), 3);
        x.ask(0);
        yes(x, "all of the single ones", x.least(0), 3);
        yes(x, "all of the single ones", x.least(1), 12);
        x.drop(2, true);
        yes(x, "by ways alone", x.least(1), 12);
        no(x, "least(2)", x.least(2), 1);
        no(x, "least(-1)", x.least(-1), 1);
        // Ways {0, 3}, {1, 3}, {2, 4}: 3 and 2, or 3 and 4; the smallest beats the greedy bits {0, 1, 2}.
        WhereFrom y = new WhereFrom();
        y.table(2);
        y.fact(0, 1, 7, 0, 0);
        y.fact(0, 1, 7, 0, 0);
        y.fact(0, 1, 8, 0, 0);
        y.fact(0, 7, 2, 0, 0);
        y.fact(0, 8, 2, 0, 0);
        y.base(0);
        y.close(0);
        y.ask(1);
        int i = y.find(1, 2, 0, 0, 0, 0);
        ways(y, "three", i, 9, 10, 20);
        yes(y, "the smallest", y.least(i), 12);
        WhereFrom z = chain(16);
        yes(z, "one of sixteen", z.least(0), 1);
    }

    private static void p31() {
        WhereFrom x = pairs(1, 2, 2, 3, 1, 3, 1, 2);
        x.close(0);
        x.ask(1);
        int i = x.find(1, 3, 0, 0, 0, 0);
        ways(x, "three", i, 3, 4, 10);
        yes(x, "blame of 0", x.blame(i, 0), 2);
        yes(x, "blame of 1", x.blame(i, 1), 1);
        yes(x, "blame of 2", x.blame(i, 2), 1);
        yes(x, "blame of 3", x.blame(i, 3), 2);
        x.drop(2, true);
        yes(x, "by ways alone", x.blame(i, 1), 1);
        yes(x, "a fact that is needed", x.blame(x.find(2, 3, 0, 0, 0, 0), 1), 0);
        no(x, "a fact in none of its ways", x.blame(i, x.fact(0, 9, 9, 0, 0)), 6);
        no(x, "blame(9, 0)", x.blame(9, 0), 1);
        no(x, "blame(-1, 0)", x.blame(-1, 0), 1);
        no(x, "blame(0, 5)", x.blame(0, 5), 1);
        no(x, "blame(0, -1)", x.blame(0, -1), 1);
        no(x, "blame(0, MIN)", x.blame(0, MIN), 1);
        WhereFrom y = pairs(1, 2, 1, 2, 1, 2);
        y.ask(0);
        yes(y, "the two others must go", y.blame(0, 1), 2);
    }

    /** As many ways as an answer can have. */
    private static void sixteenWays() {
        WhereFrom x = new WhereFrom();
        x.table(2);
        for (int k = 0; k < 16; k++) {
            x.fact(0, 1, 2, 0, 0);
        }
        x.close(x.base(0));
        for (int q = 0; q < 2; q++) {
            yes(x, "ask", x.ask(q), 1);
            C.due("the last way", x.way(0, 15), 32768);
            C.due("no further one", x.way(0, 16), 0);
            C.due("none is needed", x.need(0), 0);
            yes(x, "chance of one in sixteen", x.chance(0), WHOLE - 4294967296L);
            yes(x, "share of one in sixteen", x.share(0, 15), 4294967296L * 2);
            yes(x, "all must go", x.least(0), 65535);
            yes(x, "all others must go", x.blame(0, 15), 15);
            yes(x, "with the last one", x.with(0, 32768), 1);
        }
    }

    private static void p32() {
        WhereFrom x = pairs(1, 2, 1, 2);
        int[] off = {-1, 20, MIN, MAX};
        for (int k : off) {
            no(x, "lay(" + k + ", 0, 0)", x.lay(k, 0, 0), 1);
            no(x, "1 (place) goes before 2", x.lay(k, 9, 0), 1);
        }
        no(x, "sort -1", x.lay(0, -1, 0), 2);
        no(x, "sort 5", x.lay(0, 5, 99), 2);
        no(x, "fact 2", x.lay(0, 1, 2), 1);
        no(x, "fact -1", x.lay(0, 1, -1), 1);
        no(x, "question 1", x.lay(0, 2, 1), 1);
        no(x, "question -1", x.lay(0, 2, -1), 1);
        no(x, "the row of none", x.lay(0, 3, 0), 1);
        no(x, "the ways of none", x.lay(0, 4, 0), 1);
        C.due("no acts", x.size(4), 4);
        yes(x, "nothing, n is free", x.lay(0, 0, -7), 1);
        C.due("an act", x.size(4), 5);
        yes(x, "fact 1", x.lay(0, 1, 1), 1);
        yes(x, "question 0", x.lay(19, 2, 0), 1);
        x.ask(0);
        yes(x, "row 0", x.lay(2, 3, 0), 1);
        yes(x, "ways 0", x.lay(3, 4, 0), 1);
        no(x, "row 1", x.lay(2, 3, 1), 1);
        no(x, "ways -1", x.lay(2, 4, -1), 1);
        C.due("what is laid over a refused one", x.taken(2, 3, 1), 2);
        x.fact(0, 0, 0, 0, 0);
        x.ask(0);
        C.due("as they were then: the row", x.taken(2, 3, 1), 2);
        C.due("as they were then: the ways", x.taken(3, 4, 1), 2);
        no(x, "as many as there were", x.taken(3, 4, 2), 1);
        yes(x, "something else over it", x.lay(2, 4, 0), 1);
        C.due("something else", x.taken(2, 4, 0), 4);
    }

    private static void p33() {
        WhereFrom x = pairs(1, 2);
        x.ask(0);
        for (int sort = 0; sort < 5; sort++) {
            x.lay(sort + 15, sort, 0);
            yes(x, "lies " + sort, x.lies(sort + 15), sort);
        }
        yes(x, "lies(0)", x.lies(0), 0);
        no(x, "lies(-1)", x.lies(-1), 1);
        no(x, "lies(20)", x.lies(20), 1);
        x.lay(16, 0, 0);
        yes(x, "taken off", x.lies(16), 0);
    }

    private static void p34() {
        WhereFrom x = pairs(-1, 2, -1, 2);
        x.ask(0);
        x.lay(1, 1, 1);
        x.lay(2, 2, 0);
        x.lay(3, 3, 0);
        x.lay(4, 4, 0);
        yes(x, "the fact", x.taken(1, 1, MIN), 1);
        yes(x, "the question", x.taken(2, 2, 99), 0);
        yes(x, "a value that is like NONE", x.taken(3, 3, 0), -1);
        yes(x, "a value", x.taken(3, 3, 1), 2);
        yes(x, "a way", x.taken(4, 4, 0), 1);
        yes(x, "a way", x.taken(4, 4, 1), 2);
        no(x, "value 2", x.taken(3, 3, 2), 1);
        no(x, "value -1", x.taken(3, 3, -1), 1);
        no(x, "way 2", x.taken(4, 4, 2), 1);
        no(x, "way MIN", x.taken(4, 4, MIN), 1);
        for (int k = 0; k < 5; k++) {
            for (int sort = 1; sort < 5; sort++) {
                if (k != sort) {
                    no(x, "place " + k + " as sort " + sort, x.taken(k, sort, 0), 7);
                }
            }
            no(x, "sort 0", x.taken(k, 0, 0), 2);
            no(x, "sort 5", x.taken(k, 5, 0), 2);
        }
        no(x, "place -1", x.taken(-1, 1, 0), 1);
        no(x, "place 20, 1 goes before 2", x.taken(20, 0, 0), 1);
    }

    private static void p35() {
        WhereFrom x = new WhereFrom();
        x.table(4);
        x.table(2);
        x.fact(0, 1, 2, 3, 4);
        x.fact(1, 8, 9, 0, 0);
        x.base(0);
        x.base(1);
        x.ask(0);
        x.lay(0, 3, 0);
        x.lay(1, 3, 0);
        x.lay(3, 4, 0);
        x.ask(1);
        x.lay(2, 3, 0);
        no(x, "place -1", x.copy(-1, 0, 0, 0, 1), 1);
        no(x, "place 20", x.copy(0, 0, 20, 0, 1), 1);
        no(x, "1 goes before 7", x.copy(3, 0, 20, 0, 1), 1);
        no(x, "from ways", x.copy(3, 0, 0, 0, 1), 7);
        no(x, "to ways", x.copy(0, 0, 3, 0, 1), 7);
        no(x, "from nothing", x.copy(9, 0, 0, 0, 1), 7);
        no(x, "to nothing", x.copy(0, 0, 9, 0, 0), 7);
        no(x, "7 goes before 2", x.copy(0, -1, 9, 0, 0), 7);
        no(x, "i -1", x.copy(0, -1, 2, 0, 1), 2);
        no(x, "m -1", x.copy(0, 0, 2, -1, 1), 2);
        no(x, "n -1", x.copy(0, 0, 2, 0, -1), 2);
        no(x, "not so many there", x.copy(0, 0, 2, 0, 3), 2);
        no(x, "not so many here", x.copy(2, 0, 0, 0, 3), 2);
        no(x, "not so many from i on", x.copy(0, 3, 2, 0, 2), 2);
        no(x, "not so many from m on", x.copy(0, 0, 2, 1, 2), 2);
        no(x, "i MAX", x.copy(0, MAX, 2, 0, 2), 2);
        no(x, "m MAX", x.copy(0, 0, 2, MAX, 2), 2);
        no(x, "n MAX", x.copy(0, 1, 2, 1, MAX), 2);
        int acts = x.size(4);
        yes(x, "none at all, at the end", x.copy(0, 4, 2, 2, 0), 1);
        C.due("an act", x.size(4), acts + 1);
        no(x, "none at all, beyond the end", x.copy(0, 5, 2, 2, 0), 2);
        yes(x, "two of four over two", x.copy(0, 2, 2, 0, 2), 1);
        C.due("first", x.taken(2, 3, 0), 3);
        C.due("second", x.taken(2, 3, 1), 4);
        C.due("the answer is as it was", x.value(0, 0), 8);
        yes(x, "within one row", x.copy(0, 0, 0, 1, 3), 1);
        int[] due = {1, 1, 2, 3};
        for (int k = 0; k < 4; k++) {
            C.due("over itself " + k, x.taken(0, 3, k), due[k]);
            C.due("the like one is as it was " + k, x.taken(1, 3, k), k + 1);
        }
        yes(x, "the other way", x.copy(1, 1, 1, 0, 3), 1);
        int[] back = {2, 3, 4, 4};
        for (int k = 0; k < 4; k++) {
            C.due("back over itself " + k, x.taken(1, 3, k), back[k]);
        }
    }

    private static void p36() {
        WhereFrom x = new WhereFrom();
        x.table(2);
        x.table(2);
        x.fact(0, 1, 2, 0, 0);
        x.fact(0, 1, 3, 0, 0);
        x.base(0);
        x.put(0, 1, 5);
        x.put(0, 1, 6);
        x.drop(1, true);
        x.drop(1, true);
        x.ask(0);
        x.lay(0, 1, 1);
        x.lay(0, 3, 1);
        x.lay(1, 3, 0);
        x.copy(1, 0, 0, 1, 1);
        C.due("refused, no act", x.table(9), -1);
        C.due("undo copy", x.undo(), 1);
        C.due("status is the refused one's still", x.status(), 2);
        C.due("the row is back", x.taken(0, 3, 1), 3);
        x.undo();
        C.due("undo lay", x.lies(1), 0);
        x.undo();
        C.due("the fact lies there again", x.taken(0, 1, 0), 1);
        x.undo();
        C.due("undo lay", x.lies(0), 0);
        x.undo();
        C.due("dropped twice", x.told(1, 4), 1);
        x.undo();
        C.due("dropped no more", x.told(1, 4), 0);
        x.undo();
        C.due("COST 5", x.told(0, 1), 5);
        x.undo();
        C.due("COST 1", x.told(0, 1), 1);
        C.due("the answers stay as they were told", x.cost(0), 6);
        x.undo();
        C.due("the question is gone", x.size(2), 0);
        no(x, "none such", x.ask(0), 1);
        C.due("the answers stay", x.size(3), 2);
        C.due("undo fact", x.undo(), 1);
        C.due("one fact", x.size(1), 1);
        C.due("no answers any more", x.size(3), 0);
        C.due("no answers any more", x.value(1, 1), 0);
        no(x, "no answers any more", x.cost(0), 1);
        C.due("a new one has its number", x.fact(1, 1, 3, 0, 0), 1);
        C.due("and weights of its own", x.told(1, 4), 0);
        x.undo();
        x.undo();
        C.due("undo table", x.undo(), 1);
        C.due("one table", x.size(0), 1);
        C.due("undo table", x.undo(), 1);
        C.due("no more", x.undo(), 0);
        C.due("no acts", x.size(4), 0);
        // A table that goes takes the answers with it.
        WhereFrom y = pairs(1, 2);
        y.ask(0);
        y.table(1);
        C.due("a new table leaves them", y.size(3), 1);
        y.undo();
        C.due("a table that goes takes them", y.size(3), 0);
        C.due("but no facts", y.size(1), 1);
        C.due("and no questions", y.size(2), 1);
    }

    private static void p36Hundred() {
        WhereFrom x = pairs(1, 2);
        for (int k = 1; k <= 150; k++) {
            x.put(0, 1, k);
        }
        C.due("a hundred", x.size(4), 100);
        for (int k = 149; k >= 100; k--) {
            C.due("undo", x.undo(), 1);
            C.due("COST", x.told(0, 1), k);
        }
        C.due("fifty are left", x.size(4), 50);
        x.put(0, 1, 7);
        C.due("and one more", x.size(4), 51);
        C.due("undo", x.undo(), 1);
        for (int k = 99; k >= 50; k--) {
            C.due("undo", x.undo(), 1);
            C.due("COST", x.told(0, 1), k);
        }
        C.due("none of the hundred is left", x.undo(), 0);
        C.due("COST", x.told(0, 1), 50);
        C.due("the fact stays", x.size(1), 1);
    }

    private static void p37() {
        WhereFrom x = pairs(1, 2, 3, 4, 5, 6);
        x.table(1);
        x.close(0);
        x.pick(0, 0, 1);
        x.pick(0, 0, 3);
        x.ask(0);
        int[] due = {2, 3, 4, 3, 9};
        for (int what = 0; what < 5; what++) {
            C.due("size(" + what + ")", x.size(what), due[what]);
        }
        x.ask(2);
        C.due("of the latest ask()", x.size(3), 1);
        x.ask(99);
        C.due("a refused one is none", x.size(3), 1);
        C.due("size(5)", x.size(5), -1);
        C.due("size(-1)", x.size(-1), -1);
        C.due("size(MIN)", x.size(MIN), -1);
    }

    private static void p38() {
        WhereFrom x = pairs(1, 2);
        x.table(0);
        C.due("2", x.status(), 2);
        C.due("2 still", x.status(), 2);
        // Calls that are never refused leave it alone.
        x.told(9, 9);
        x.kind(9, 9);
        x.value(9, 9);
        x.find(9, 9, 9, 9, 9, 9);
        x.ways(9);
        x.way(9, 9);
        x.need(9);
        x.without(9);
        x.size(9);
        x.undo();
        C.due("2 still", x.status(), 2);
        x.lies(0);
        C.due("0", x.status(), 0);
        x.told(9, 9);
        x.kind(9, 9);
        x.ways(9);
        C.due("0 still", x.status(), 0);
        x.ask(9);
        C.due("1", x.status(), 1);
        x.drop(0, false);
        C.due("0", x.status(), 0);
    }

    /** Whatever was refused before: behind a call that is accepted it is 0. */
    private static void p38Accepted() {
        WhereFrom x = new WhereFrom();
        for (int call = 0; call < 27; call++) {
            x.table(0);
            C.due("refused", x.status(), 2);
            accepted(x, call);
            C.due("status behind accepted call " + call, x.status(), 0);
        }
    }

    private static void accepted(WhereFrom x, int call) {
        switch (call) {
            case 0 -> C.due("table", x.table(2), 0);
            case 1 -> C.due("fact", x.fact(0, 1, 2, 0, 0), 0);
            case 2 -> C.due("drop", x.drop(0, false), true);
            case 3 -> C.due("put", x.put(0, 0, 2), true);
            case 4 -> C.due("base", x.base(0), 0);
            case 5 -> C.due("pick", x.pick(0, 0, 1), 1);
            case 6 -> C.due("like", x.like(0, 0, 1), 2);
            case 7 -> C.due("cut", x.cut(0, 1, 0, 0, 0, 0), 3);
            case 8 -> C.due("pair", x.pair(0, 0, 0, 0), 4);
            case 9 -> C.due("either", x.either(0, 0), 5);
            case 10 -> C.due("close", x.close(0), 6);
            case 11 -> C.due("most", x.most(0, 2), 7);
            case 12 -> C.due("ask", x.ask(7), 1);
            case 13 -> C.due("count", x.count(0), 2);
            case 14 -> C.due("cost", x.cost(0), 1);
            case 15 -> C.due("trust", x.trust(0), ONE);
            case 16 -> C.due("stays", x.stays(0), 1);
            case 17 -> C.due("with", x.with(0, 0L), 0);
            case 18 -> C.due("chance", x.chance(0), WHOLE / 2);
            case 19 -> C.due("share", x.share(0, 0), WHOLE);
            case 20 -> C.due("least", x.least(0), 1);
            case 21 -> C.due("blame", x.blame(0, 0), 0);
            case 22 -> C.due("lay", x.lay(0, 3, 0), 1);
            case 23 -> C.due("lies", x.lies(0), 3);
            case 24 -> C.due("taken", x.taken(0, 3, 1), 2);
            case 25 -> C.due("copy", x.copy(0, 0, 0, 1, 1), 1);
            default -> C.due("lay nothing", x.lay(0, 0, 0), 1);
        }
    }
}
