import java.math.BigInteger;
import java.util.function.ToLongFunction;

/** Promises 22 to 24 and 28 to 31: COUNT, COST, TRUST, CHANCE, SHARE, LEAST and BLAME of answers. */
final class BoundaryWeights {
    private static final int MIN = Boundary.MIN;
    private static final int MAX = Boundary.MAX;
    private static final long ONE = Boundary.ONE;
    private static final long HALF = Boundary.HALF;
    private static final long WHOLE = Boundary.WHOLE;
    /** Numbers of no answer of house(), which has two. */
    private static final int[] NO_ANSWER = {-1, 2, 32, 64, MIN, MAX};
    private static final String AT_ASK = "COUNT, COST, TRUST are by the weights at ask(), CHANCE, SHARE, stays() by what is now;";
    private static final String FEW = "Of an ANSWER with at most 16 FACTS in its WAYS:";
    private final Boundary b;

    BoundaryWeights(Boundary b) {
        this.b = b;
    }

    void run() {
        countAlong();
        countWraps();
        countOfNone();
        countWithAClose();
        costAlong();
        costAtTheBound();
        costOfChainsAtTheBound();
        costOfNone();
        trustAlong();
        chainsAgainstTheOrder();
        trustOfNone();
        weightsAtAsk();
        asTheFirstOnes();
        chanceFromNoneToWhole();
        chanceOfSixteenFacts();
        chanceRefused();
        shareOfFacts();
        shareOfOneInNone();
        shareRefused();
        leastSets();
        leastRefused();
        blames();
        blameRefused();
    }

    // ---- 22: count

    private void countAlong() {
        b.says(22, "COUNT of ANSWER i;", "READINGS, worked along the QUESTION: COUNT: a FACT's; the sum, in CUT, EITHER, BASE, of all that come to a row;",
            "in PAIR the product");
        WhereFrom x = Boundary.rows(2, 1, 1, 1, 2, 1, 1);
        x.put(0, 0, 9);
        x.put(1, 0, 0);
        x.put(2, 0, 9);
        x.ask(0);
        b.yes(x, "the sum of two nines in BASE", x.count(0), 18);
        b.yes(x, "none at all", x.count(1), 0);
        x.ask(x.cut(0, 1, 0, 0, 0, 0));
        b.yes(x, "the sum in CUT", x.count(0), 18);
        x.ask(x.either(0, 0));
        b.yes(x, "the sum in EITHER", x.count(0), 36);
        x.ask(x.pair(0, 0, 0, 0));
        b.yes(x, "the product in PAIR", x.count(0), 324);
        b.yes(x, "a product with none", x.count(1), 0);
        WhereFrom most = Boundary.likeRows(16);
        for (int k = 0; k < 16; k++) {
            most.put(k, 0, 9);
        }
        most.ask(0);
        b.yes(most, "the greatest sum of BASE", most.count(0), 144);
    }

    private void countWraps() {
        b.says(22, "(longs that wrap)", "COUNT of ANSWER i;");
        WhereFrom x = Boundary.rows(1, 7);
        x.put(0, 0, 8);
        int q = 0;
        for (int k = 0; k < 4; k++) {
            q = x.cut(x.pair(q, q, 0, 0), 1, 0, 0, 0, 0);
        }
        int high = q;
        x.ask(high);
        b.yes(x, "2 to the 48th", x.count(0), 1L << 48);
        for (int k = 48; k < 62; k++) {
            q = x.either(q, q);
        }
        x.ask(q);
        b.yes(x, "2 to the 62nd", x.count(0), 1L << 62);
        q = x.either(q, q);
        x.ask(q);
        b.yes(x, "a sum that wraps: 2 to the 63rd", x.count(0), Long.MIN_VALUE);
        int low = x.either(q, 0);
        x.ask(low);
        b.yes(x, "and eight more", x.count(0), Long.MIN_VALUE + 8);
        x.ask(x.either(q, q));
        b.yes(x, "2 to the 64th", x.count(0), 0);
        x.ask(x.pair(high, high, 0, 0));
        b.yes(x, "a product that wraps: 2 to the 96th", x.count(0), 0);
        WhereFrom nine = Boundary.rows(1, 7);
        nine.put(0, 0, 9);
        int power = 0;
        for (int k = 0; k < 6; k++) {
            power = nine.cut(nine.pair(power, power, 0, 0), 1, 0, 0, 0, 0);
        }
        nine.ask(power);
        b.yes(nine, "a product that wraps: 9 to the 64th", nine.count(0), BigInteger.valueOf(9).pow(64).longValue());
    }

    private void countOfNone() {
        b.says(22, "0, status 1; 6.");
        for (int i : NO_ANSWER) {
            b.refused(Boundary::house, "count(" + i + ")", x -> x.count(i), 0, 1);
        }
    }

    private static WhereFrom closedHouse() {
        WhereFrom x = Boundary.house();
        x.ask(2);
        return x;
    }

    private void countWithAClose() {
        b.says(22, "0, status 1; 6.", "none in a QUESTION with a CLOSE.");
        b.refused(BoundaryWeights::closedHouse, "count(0) of a CLOSE", x -> x.count(0), 0, 6);
        b.refused(BoundaryWeights::closedHouse, "count(3) of a CLOSE with three answers: 1 is told ahead of 6", x -> x.count(3), 0, 1);
        b.refused(BoundaryWeights::closedHouse, "count(-1) of a CLOSE", x -> x.count(-1), 0, 1);
        WhereFrom x = Boundary.rows(2, 1, 2);
        int closed = x.close(0);
        int[] with = {x.pick(closed, 0, 1), x.like(closed, 0, 0), x.cut(closed, 1, 0, 0, 0, 0), x.pair(closed, 0, 0, 0), x.pair(0, closed, 0, 0),
            x.either(closed, 0), x.either(0, closed), x.close(closed), x.most(closed, x.pick(0, 0, 9)), x.most(0, x.pick(closed, 0, 9))};
        for (int q : with) {
            b.due("ask of a question with a CLOSE in it, of kind " + x.kind(q, 0), x.ask(q), 1);
            b.due("count(0)", x.count(0), 0);
            b.due("its status", x.status(), 6);
            b.due("kind(" + q + ", 4)", x.kind(q, 4), 1);
        }
        x.ask(0);
        b.yes(x, "count(0) of a question that CLOSE is of", x.count(0), 1);
    }

    // ---- 23: cost

    private void costAlong() {
        b.says(23, "COST of ANSWER i;", "COST: sum in PAIR", "the least in CUT, EITHER, BASE;");
        WhereFrom x = Boundary.rows(2, 1, 1, 1, 2, 1, 1);
        x.put(0, 1, 1000);
        x.put(1, 1, 0);
        x.put(2, 1, 999);
        x.ask(0);
        b.yes(x, "the least in BASE", x.cost(0), 999);
        b.yes(x, "none", x.cost(1), 0);
        x.ask(x.cut(0, 1, 0, 0, 0, 0));
        b.yes(x, "the least in CUT", x.cost(0), 0);
        x.ask(x.either(0, 0));
        b.yes(x, "the least in EITHER", x.cost(0), 999);
        x.ask(x.pair(0, 0, 0, 0));
        b.yes(x, "the sum in PAIR, of one fact twice too", x.cost(0), 1998);
        b.yes(x, "a sum with none", x.cost(1), 999);
        b.yes(x, "a sum of none and none", x.cost(3), 0);
    }

    /** One place cut from five rows of a question behind each other, which cost five times as much. */
    private static int fiveTimes(WhereFrom x, int q) {
        int two = x.pair(q, q, 0, 0);
        return x.cut(x.pair(x.pair(two, two, 0, 0), q, 0, 0), 1, 0, 0, 0, 0);
    }

    private static int twice(WhereFrom x, int q) {
        return x.cut(x.pair(q, q, 0, 0), 1, 0, 0, 0, 0);
    }

    private static int fourTimes(WhereFrom x, int q) {
        int two = x.pair(q, q, 0, 0);
        return x.cut(x.pair(two, two, 0, 0), 1, 0, 0, 0, 0);
    }

    private void costAtTheBound() {
        b.says(23, "(above 1,000,000,000: that)", "COST of ANSWER i;");
        WhereFrom x = Boundary.rows(1, 7);
        x.table(1);
        x.fact(1, 7, 0, 0, 0);
        int million = 0;
        for (int k = 0; k < 6; k++) {
            million = fiveTimes(x, million);
        }
        for (int k = 0; k < 3; k++) {
            million = fourTimes(x, million);
        }
        int more = x.pair(million, x.base(1), 0, 0);
        int twofold = x.pair(more, more, 0, 0);
        int[][] due = {{0, 0, 0}, {1, 0, 1000000}, {0, 1000, 1000}, {999, 0, 999000000}, {999, 1000, 999001000}, {1000, 0, 1000000000},
            {1000, 1, 1000000000}, {1000, 1000, 1000000000}};
        for (int[] d : due) {
            x.put(0, 1, d[0]);
            x.put(1, 1, d[1]);
            x.ask(more);
            b.yes(x, "a million times " + d[0] + " and " + d[1], x.cost(0), d[2]);
        }
        x.ask(twofold);
        b.yes(x, "twice the bound", x.cost(0), 1000000000);
        b.due("questions", x.size(2), 37);
        x.ask(x.either(twofold, twofold));
        b.yes(x, "the least of two at the bound", x.cost(0), 1000000000);
    }

    /** Steps 1-2, 2-3, 3-4, each of 500,000 times fact 0 and one fact of its own, 1 to 3. */
    private void costOfChainsAtTheBound() {
        b.says(23, "in CLOSE the least of all chains (each chain's sum, likewise).", "(above 1,000,000,000: that)");
        WhereFrom x = Boundary.rows(1, 7);
        x.put(0, 1, 1000);
        x.table(3);
        for (int k = 1; k <= 3; k++) {
            x.fact(1, k, k + 1, 7, 0);
            x.put(k, 1, 0);
        }
        int big = 0;
        for (int k = 0; k < 6; k++) {
            big = fiveTimes(x, big);
        }
        big = twice(x, fourTimes(x, fourTimes(x, big)));
        int closed = x.close(x.cut(x.pair(x.base(1), big, 2, 0), 2, 0, 1, 0, 0));
        x.ask(closed);
        b.yes(x, "one step", x.cost(x.find(1, 2, 0, 0, 0, 0)), 500000000);
        b.yes(x, "two steps, at the bound", x.cost(x.find(1, 3, 0, 0, 0, 0)), 1000000000);
        b.yes(x, "three steps, above it", x.cost(x.find(1, 4, 0, 0, 0, 0)), 1000000000);
        x.put(2, 1, 1);
        x.ask(closed);
        b.yes(x, "two steps, one above the bound", x.cost(x.find(1, 3, 0, 0, 0, 0)), 1000000000);
        x.put(0, 1, 999);
        x.ask(closed);
        b.yes(x, "two steps, below it", x.cost(x.find(1, 3, 0, 0, 0, 0)), 999000001);
        WhereFrom loops = Boundary.rows(2, 1, 2, 2, 1, 1, 1);
        loops.put(0, 1, 0);
        loops.put(1, 1, 0);
        loops.put(2, 1, 1000);
        loops.close(0);
        loops.ask(1);
        b.yes(loops, "a chain of two that costs nothing, beside a dear row", loops.cost(loops.find(1, 1, 0, 0, 0, 0)), 0);
    }

    private void costOfNone() {
        b.says(23, "NONE (1).");
        for (int i : NO_ANSWER) {
            b.no(Boundary::house, "cost(" + i + ")", x -> x.cost(i), 1);
        }
    }

    // ---- 24: trust

    private void trustAlong() {
        b.says(24, "The bits of TRUST of ANSWER i;",
            "TRUST: the least in PAIR, the greatest in CUT, EITHER, BASE; in CLOSE the greatest of all chains' leasts.");
        WhereFrom x = Boundary.rows(2, 1, 2, 1, 3, 1, 2);
        x.put(0, 2, 0);
        x.put(1, 2, ONE - 1);
        x.put(2, 2, 1);
        x.ask(0);
        b.yes(x, "the greatest in BASE, of 0 and the least above it", x.trust(0), 1);
        b.yes(x, "the greatest below 1", x.trust(1), ONE - 1);
        x.ask(x.cut(0, 1, 0, 0, 0, 0));
        b.yes(x, "the greatest in CUT", x.trust(0), ONE - 1);
        x.ask(x.pair(0, 0, 0, 0));
        b.yes(x, "the least in PAIR", x.trust(1), 1);
        x.put(2, 2, 0);
        x.ask(x.either(0, 0));
        b.yes(x, "none at all, in EITHER", x.trust(0), 0);
        x.put(0, 2, ONE);
        x.ask(x.either(0, 0));
        b.yes(x, "as much as there is", x.trust(0), ONE);
        WhereFrom chains = Boundary.rows(2, 1, 4, 1, 2, 2, 4, 1, 3, 3, 4);
        long[] trusts = {1, ONE, HALF, ONE - 1, HALF + 1};
        for (int k = 0; k < 5; k++) {
            chains.put(k, 2, trusts[k]);
        }
        chains.close(0);
        chains.ask(1);
        b.yes(chains, "the greatest of three chains' leasts", chains.trust(chains.find(1, 4, 0, 0, 0, 0)), HALF + 1);
        chains.put(4, 2, 0);
        chains.put(2, 2, 0);
        chains.put(0, 2, 0);
        chains.ask(1);
        b.yes(chains, "the greatest of three that are none", chains.trust(chains.find(1, 4, 0, 0, 0, 0)), 0);
        WhereFrom two = Boundary.rows(2, 1, 2, 2, 3);
        two.put(0, 2, 0);
        two.close(0);
        two.ask(1);
        b.yes(two, "none, of a chain that no row goes along", two.trust(two.find(1, 3, 0, 0, 0, 0)), 0);
    }

    /** Steps 9-8, 8-7 .. 5-4: each shorter part of a chain stands behind it in the order of the rows. */
    private static WhereFrom backwards() {
        WhereFrom x = Boundary.rows(2, 9, 8, 8, 7, 7, 6, 6, 5, 5, 4);
        x.close(0);
        return x;
    }

    private void chainsAgainstTheOrder() {
        b.says(24, "in CLOSE the greatest of all chains' leasts.", "in CLOSE the least of all chains (each chain's sum, likewise).");
        WhereFrom costs = backwards();
        for (int k = 0; k < 5; k++) {
            costs.put(k, 1, k + 1);
            costs.put(k, 2, 0);
        }
        b.yes(costs, "ask, with no TRUST anywhere", costs.ask(1), 15);
        int far = costs.find(9, 4, 0, 0, 0, 0);
        b.yes(costs, "COST of all five", costs.cost(far), 15);
        b.yes(costs, "TRUST of all five", costs.trust(far), 0);
        // Rows 9-7 .. 9-4 that cost nothing and are of little trust: the chains change the TRUST alone.
        WhereFrom trusts = backwards();
        for (int k = 0; k < 5; k++) {
            trusts.put(k, 2, k == 3 ? HALF : ONE);
        }
        for (int k = 0; k < 4; k++) {
            trusts.fact(0, 9, 7 - k, 0, 0);
            trusts.put(5 + k, 1, 0);
            trusts.put(5 + k, 2, 1);
        }
        b.yes(trusts, "ask", trusts.ask(1), 15);
        b.yes(trusts, "COST of the row", trusts.cost(far), 0);
        b.yes(trusts, "TRUST of the chain of five", trusts.trust(far), HALF);
        b.yes(trusts, "TRUST of the chain of three", trusts.trust(trusts.find(9, 6, 0, 0, 0, 0)), ONE);
    }

    private void trustOfNone() {
        b.says(24, "NONE (1).");
        for (int i : NO_ANSWER) {
            b.no(Boundary::house, "trust(" + i + ")", x -> x.trust(i), 1);
        }
    }

    private void weightsAtAsk() {
        b.says(24, AT_ASK);
        WhereFrom x = Boundary.rows(1, 7);
        x.ask(0);
        x.put(0, 0, 9);
        x.put(0, 1, 9);
        x.put(0, 2, 0);
        x.put(0, 3, 8);
        x.drop(0, true);
        b.yes(x, "COUNT at ask()", x.count(0), 1);
        b.yes(x, "COST at ask()", x.cost(0), 1);
        b.yes(x, "TRUST at ask()", x.trust(0), ONE);
        b.yes(x, "CHANCE now", x.chance(0), WHOLE);
        b.yes(x, "stays() now", x.stays(0), 0);
        x.ask(0);
        b.yes(x, "COUNT at the next ask()", x.count(0), 9);
        b.yes(x, "COST at the next ask()", x.cost(0), 9);
        b.yes(x, "TRUST at the next ask()", x.trust(0), 0);
    }

    private void asTheFirstOnes() {
        b.says(24, "MOST: as the first one's, each.", "MOST: as the first one's;");
        WhereFrom x = Boundary.rows(1, 7, 7);
        x.table(1);
        x.fact(1, 7, 0, 0, 0);
        x.put(0, 0, 9);
        x.put(1, 1, 0);
        x.put(0, 2, HALF);
        x.put(1, 2, 0);
        x.put(2, 0, 5);
        x.put(2, 2, ONE);
        x.drop(2, true);
        x.ask(x.most(0, x.base(1)));
        b.yes(x, "COUNT", x.count(0), 10);
        b.yes(x, "COST", x.cost(0), 0);
        b.yes(x, "TRUST", x.trust(0), HALF);
        b.ways(x, 0, 1, 2);
        b.yes(x, "TRUE", x.stays(0), 1);
        x.drop(2, false);
        b.yes(x, "TRUE still, whatever the second one is now", x.stays(0), 1);
    }

    // ---- 28: chance

    private void chanceFromNoneToWhole() {
        b.says(28, "CHANCE of ANSWER i (by the weights as they are now), in parts;",
            "CHANCE, in parts of 281474976710656 (8 to the 16th): each of these FACTS being there by its eighths, apart from the others, that one WAY at least"
            + " is whole.");
        WhereFrom x = Boundary.rows(1, 7, 7);
        x.ask(0);
        for (int first = 0; first <= 8; first++) {
            for (int second = 0; second <= 8; second += 4) {
                x.put(0, 3, first);
                x.put(1, 3, second);
                b.yes(x, first + " and " + second + " eighths", x.chance(0), WHOLE / 64 * (64 - (8 - first) * (8 - second)));
            }
        }
        x.drop(0, true);
        x.drop(1, true);
        b.yes(x, "surely there, dropped or not", x.chance(0), WHOLE);
        // A fact that is in two ways is there once for both: 0 and (1 or 2).
        WhereFrom shared = Boundary.rows(2, 1, 2, 2, 3, 2, 3);
        shared.pair(0, 0, 1, 0);
        shared.ask(1);
        shared.put(0, 3, 1);
        b.yes(shared, "an eighth of three quarters", shared.chance(0), WHOLE / 32 * 3);
        // Two ways apart: 0 and 1, or 2 and 3.
        WhereFrom apart = Boundary.rows(2, 1, 2, 2, 9, 1, 3, 3, 9);
        apart.close(0);
        apart.ask(1);
        int i = apart.find(1, 9, 0, 0, 0, 0);
        b.ways(apart, i, 3, 12);
        b.yes(apart, "one of two quarters at least", apart.chance(i), WHOLE / 16 * 7);
        apart.put(1, 3, 0);
        b.yes(apart, "the first way surely not", apart.chance(i), WHOLE / 4);
        apart.put(2, 3, 8);
        apart.put(3, 3, 8);
        b.yes(apart, "the second way surely", apart.chance(i), WHOLE);
    }

    private void chanceOfSixteenFacts() {
        b.says(28, FEW, "CHANCE, in parts of 281474976710656 (8 to the 16th):");
        WhereFrom x = Boundary.chain(16);
        for (int k = 0; k < 16; k++) {
            x.put(k, 3, 1);
        }
        b.yes(x, "an eighth to the 16th: one part", x.chance(0), 1);
        x.put(15, 3, 0);
        b.yes(x, "one of sixteen is surely not there", x.chance(0), 0);
        for (int k = 0; k < 16; k++) {
            x.put(k, 3, 8);
        }
        b.yes(x, "all sixteen surely there", x.chance(0), WHOLE);
        x.put(0, 3, 7);
        b.yes(x, "all but an eighth", x.chance(0), WHOLE / 8 * 7);
        WhereFrom any = Boundary.likeRows(16);
        any.ask(0);
        for (int k = 0; k < 16; k++) {
            any.put(k, 3, 7);
        }
        b.yes(any, "one of sixteen ways at least: all but one part", any.chance(0), WHOLE - 1);
    }

    private void refusedWithSeventeen(String call, ToLongFunction<WhereFrom> made) {
        b.no(() -> Boundary.chain(17), call + " of 17 facts", made, 6);
    }

    private void chanceRefused() {
        b.says(28, "NONE: 1; 6.", "6 it isn't told (COUNT with a CLOSE; more than 16 FACTS;");
        for (int i : NO_ANSWER) {
            b.no(Boundary::house, "chance(" + i + ")", x -> x.chance(i), 1);
        }
        refusedWithSeventeen("chance(0)", x -> x.chance(0));
        b.no(() -> Boundary.chain(17), "chance(1) beside 17 facts: 1 is told ahead of 6", x -> x.chance(1), 1);
        // 17 facts in two ways of which none has more than 9.
        WhereFrom two = seventeenInTwoWays();
        b.due("two ways", two.ways(0), 2);
        b.no(BoundaryWeights::seventeenInTwoWays, "chance(0) of 17 facts in two ways", x -> x.chance(0), 6);
    }

    /** One answer by facts 0 to 7, or by facts 8 to 16: two lines from 0 to 99. */
    private static WhereFrom seventeenInTwoWays() {
        WhereFrom x = new WhereFrom();
        x.table(2);
        line(x, 8, 10);
        line(x, 9, 30);
        int q = x.base(0);
        int short8 = x.pick(q, 1, 11);
        int long9 = x.pick(q, 1, 31);
        for (int k = 1; k < 9; k++) {
            short8 = k < 8 ? x.cut(x.pair(short8, q, 1, 0), 2, 0, 3, 0, 0) : short8;
            long9 = x.cut(x.pair(long9, q, 1, 0), 2, 0, 3, 0, 0);
        }
        x.ask(x.either(short8, long9));
        return x;
    }

    /** Steps from 0 to 99 by so many facts, with numbers of their own between them. */
    private static void line(WhereFrom x, int facts, int numbers) {
        for (int k = 0; k < facts; k++) {
            x.fact(0, k == 0 ? 0 : numbers + k, k == facts - 1 ? 99 : numbers + k + 1, 0, 0);
        }
    }

    // ---- 29: share

    private void shareOfFacts() {
        b.says(29, "SHARE of a FACT in ANSWER i, in parts", "SHARE of a FACT: the CHANCE if it surely is there less that if it surely isn't.");
        WhereFrom x = Boundary.rows(1, 7, 7);
        x.ask(0);
        for (int own = 0; own <= 8; own += 4) {
            x.put(0, 3, own);
            for (int other = 0; other <= 8; other++) {
                x.put(1, 3, other);
                b.yes(x, "share by " + own + " eighths beside " + other, x.share(0, 0), WHOLE / 8 * (8 - other));
            }
        }
        WhereFrom all = Boundary.chain(16);
        for (int k = 0; k < 16; k++) {
            all.put(k, 3, 1);
        }
        b.yes(all, "share of the last of sixteen, of an eighth each", all.share(0, 15), 8);
        all.drop(15, true);
        b.yes(all, "dropped or not", all.share(0, 15), 8);
    }

    private void shareOfOneInNone() {
        b.says(29, "(0 of one in none of its WAYS);");
        WhereFrom x = Boundary.house();
        b.yes(x, "share of a fact of another row", x.share(0, 1), 0);
        b.yes(x, "share of a fact of another table", x.share(1, 2), 0);
        b.yes(x, "share of the answer's own", x.share(0, 0), WHOLE);
        x.fact(0, 1, 2, 0, 0);
        b.yes(x, "share of a later fact with a like row", x.share(0, 3), 0);
    }

    private void shareRefused() {
        b.says(29, "NONE: 1 (ANSWER, FACT); 6.");
        for (int i : NO_ANSWER) {
            b.no(Boundary::house, "share(" + i + ", 0)", x -> x.share(i, 0), 1);
        }
        for (int fact : Boundary.NO_NUMBER) {
            b.no(Boundary::house, "share(0, " + fact + ")", x -> x.share(0, fact), 1);
            b.no(() -> Boundary.chain(17), "share(0, " + fact + ") beside 17 facts: 1 is told ahead of 6", x -> x.share(0, fact), 1);
        }
        b.no(Boundary::house, "share(0, 3), one behind the last", x -> x.share(0, 3), 1);
        refusedWithSeventeen("share(0, 16)", x -> x.share(0, 16));
        b.no(() -> Boundary.chain(17), "share(1, 0) beside 17 facts", x -> x.share(1, 0), 1);
    }

    // ---- 30: least

    private void leastSets() {
        b.says(30, "LEAST of ANSWER i, as bits;", "LEAST: the smallest set with a FACT of each WAY (of as small ones the least number as bits).");
        WhereFrom one = Boundary.rows(1, 7);
        one.ask(0);
        b.yes(one, "of one fact", one.least(0), 1);
        WhereFrom all = Boundary.likeRows(16);
        all.ask(0);
        b.yes(all, "all of sixteen ways", all.least(0), 65535);
        WhereFrom chain = Boundary.chain(16);
        b.yes(chain, "the least number of sixteen", chain.least(0), 1);
        // Ways {0, 3}, {1, 3}, {2, 4}: a set of two, not the three of the least numbers.
        WhereFrom y = Boundary.rows(2, 1, 7, 1, 7, 1, 8, 7, 2, 8, 2);
        y.close(0);
        y.ask(1);
        int i = y.find(1, 2, 0, 0, 0, 0);
        b.ways(y, i, 9, 10, 20);
        b.yes(y, "the smallest one ahead of the least number", y.least(i), 12);
        // The highest bits: facts 58 and 59.
        WhereFrom high = new WhereFrom();
        high.table(1);
        high.table(1);
        for (int k = 0; k < 60; k++) {
            high.fact(k < 58 ? 0 : 1, 7, 0, 0, 0);
        }
        high.ask(high.base(1));
        b.yes(high, "facts 58 and 59", high.least(0), 3L << 58);
        high.drop(58, true);
        b.yes(high, "by WAYS alone, dropped or not", high.least(0), 3L << 58);
    }

    private void leastRefused() {
        b.says(30, "NONE: 1; 6.");
        for (int i : NO_ANSWER) {
            b.no(Boundary::house, "least(" + i + ")", x -> x.least(i), 1);
        }
        refusedWithSeventeen("least(0)", x -> x.least(0));
        b.no(() -> Boundary.chain(17), "least(1) beside 17 facts: 1 is told ahead of 6", x -> x.least(1), 1);
        b.no(BoundaryWeights::seventeenInTwoWays, "least(0) of 17 facts in two ways", x -> x.least(0), 6);
    }

    // ---- 31: blame

    private void blames() {
        b.says(31, "BLAME of a FACT for ANSWER i;",
            "BLAME of a FACT: how many others, at least, must go so that the ANSWER is there still, and without this FACT isn't.");
        WhereFrom one = Boundary.rows(1, 7);
        one.ask(0);
        b.yes(one, "none must go", one.blame(0, 0), 0);
        WhereFrom all = Boundary.likeRows(16);
        all.ask(0);
        b.yes(all, "all fifteen others must go", all.blame(0, 0), 15);
        b.yes(all, "all fifteen others must go", all.blame(0, 15), 15);
        all.drop(3, true);
        b.yes(all, "by WAYS alone, dropped or not", all.blame(0, 15), 15);
        WhereFrom chain = Boundary.chain(16);
        b.yes(chain, "each of sixteen is needed", chain.blame(0, 15), 0);
        // Ways {0, 2}, {1, 2}, {3}: for 0 go 1 and 3, for 2 and 3 one goes.
        WhereFrom y = Boundary.rows(2, 1, 2, 1, 2, 2, 3, 1, 3);
        y.close(0);
        y.ask(1);
        int i = y.find(1, 3, 0, 0, 0, 0);
        b.ways(y, i, 5, 6, 8);
        int[] due = {2, 2, 1, 1};
        for (int fact = 0; fact < 4; fact++) {
            b.yes(y, "blame of " + fact, y.blame(i, fact), due[fact]);
        }
    }

    private void blameRefused() {
        b.says(31, "NONE: 1 (ANSWER, FACT); 6 (also of a FACT in none of its WAYS).", "a FACT that is never to blame);");
        for (int i : NO_ANSWER) {
            b.no(Boundary::house, "blame(" + i + ", 0)", x -> x.blame(i, 0), 1);
        }
        for (int fact : Boundary.NO_NUMBER) {
            b.no(Boundary::house, "blame(0, " + fact + ")", x -> x.blame(0, fact), 1);
            b.no(() -> Boundary.chain(17), "blame(0, " + fact + ") beside 17 facts: 1 is told ahead of 6", x -> x.blame(0, fact), 1);
        }
        b.no(Boundary::house, "blame(0, 3), one behind the last", x -> x.blame(0, 3), 1);
        b.no(Boundary::house, "blame of a fact of another row", x -> x.blame(0, 1), 6);
        b.no(Boundary::house, "blame of a fact of another table", x -> x.blame(1, 2), 6);
        refusedWithSeventeen("blame(0, 16)", x -> x.blame(0, 16));
        b.no(() -> Boundary.chain(17), "blame(1, 0) beside 17 facts", x -> x.blame(1, 0), 1);
    }
}
