import java.lang.management.ManagementFactory;
import java.util.Random;
import java.util.function.LongSupplier;

/** No arguments in any state make the machine throw, and the dearest call 512 times over stays well within the room. */
public final class RoomTest {
    private static final Check C = new Check("RoomTest");
    private static final int[] ODD = {0, 1, 2, 3, 4, 5, 6, 7, -1, -2, 8, 9, 10, 11, 15, 16, 19, 20, 31, 32, 33, 39, 40, 41, 59, 60, 61, 63, 64, 65,
        100, 1000, 1001, Integer.MAX_VALUE, Integer.MIN_VALUE, Integer.MAX_VALUE - 1, Integer.MIN_VALUE + 1};
    private static final int CALLS = 512;
    private static final long ROOM_OBJECTS = 600_000L;
    private static final long ROOM_ELEMENTS = 7_300_000L;
    /** Well within the room: a tenth of it. */
    private static final long PART = 10L;
    /** What the machine counts are bytes: no field or element takes less than one, no object or array less than 16. */
    private static final long OBJECT_BYTES = 16L;
    private static final com.sun.management.ThreadMXBean MACHINE = (com.sun.management.ThreadMXBean) ManagementFactory.getThreadMXBean();
    private static long sum = 0;
    private static long dearest = 0;
    private static String dearestCall = "none";

    public static void main(String[] args) {
        C.holds("the machine counts what is made", MACHINE.isThreadAllocatedMemorySupported() && MACHINE.isThreadAllocatedMemoryEnabled());
        weighCalls(100);
        // At first the machine's own loading of classes was weighed too.
        forget();
        weighCalls(4000);
        dearestCallFits();
        runs();
        C.holds("something was answered", sum != 0);
        C.end();
    }

    private static void weighCalls(int wildRuns) {
        scenes();
        for (long seed = 0; seed < wildRuns; seed++) {
            wild(new WhereFrom(), new Random(seed), CALLS);
        }
    }

    private static long bytes() {
        return MACHINE.getCurrentThreadAllocatedBytes();
    }

    private static void forget() {
        dearest = 0;
        dearestCall = "none";
    }

    /** What a call answers; what it makes is weighed against the dearest one so far. */
    private static long made(String name, LongSupplier call) {
        long before = bytes();
        long answer = call.getAsLong();
        weigh(name, bytes() - before);
        return answer;
    }

    private static void weigh(String name, long made) {
        if (made > dearest) {
            dearest = made;
            dearestCall = name;
        }
    }

    private static boolean isWellWithin(long bytes) {
        return bytes <= ROOM_ELEMENTS / PART && bytes / OBJECT_BYTES <= ROOM_OBJECTS / PART;
    }

    private static void dearestCallFits() {
        long before = bytes();
        WhereFrom x = new WhereFrom();
        long constructor = bytes() - before;
        sum += x.size(0);
        String told = "the constructor's " + constructor + " bytes and " + CALLS + " times the " + dearest + " of " + dearestCall;
        C.holds("a call was weighed", dearest > 0);
        C.holds(told + " stay well within the room", isWellWithin(constructor + CALLS * dearest));
    }

    private static void wild(WhereFrom x, Random r, int calls) {
        for (int k = 0; k < calls; k++) {
            boolean first = k < 20;
            int which = first ? (k < 4 ? 0 : k < 16 ? 1 : 5) : r.nextInt(38);
            boolean small = first || r.nextInt(4) > 0;
            long before = bytes();
            call(x, r, which, small);
            weigh("a wild call", bytes() - before);
        }
        C.holds("a status", x.status() >= 0 && x.status() <= 7);
    }

    private static int arg(Random r, boolean small) {
        return small ? r.nextInt(4) : r.nextInt(10) == 0 ? r.nextInt() : ODD[r.nextInt(ODD.length)];
    }

    private static void call(WhereFrom x, Random r, int which, boolean small) {
        int a = arg(r, small), b = arg(r, small), c = arg(r, small), d = arg(r, small), e = arg(r, small), f = arg(r, small);
        long w = r.nextBoolean() ? r.nextLong() : a;
        switch (which) {
            case 0 -> sum += x.table(small ? 2 : a);
            case 1 -> sum += x.fact(a, b, c, d, e);
            case 2 -> sum += x.drop(a, r.nextBoolean()) ? 1 : 0;
            case 3 -> sum += x.put(a, b, w) ? 1 : 0;
            case 4 -> sum += x.told(a, b);
            case 5 -> sum += x.base(a);
            case 6 -> sum += x.pick(a, b, c);
            case 7 -> sum += x.like(a, b, c);
            case 8 -> sum += x.cut(a, b, c, d, e, f);
            case 9 -> sum += x.pair(a, b, c, d);
            case 10 -> sum += x.either(a, b);
            case 11 -> sum += x.close(a);
            case 12 -> sum += x.most(a, b);
            case 13 -> sum += x.kind(a, b);
            case 14, 37 -> sum += x.ask(r.nextBoolean() ? a : r.nextInt(1 + x.size(2)));
            case 15 -> sum += x.value(a, b);
            case 16 -> sum += x.find(a, b, c, d, e, f);
            case 17 -> sum += x.ways(a);
            case 18 -> sum += x.way(a, b);
            case 19 -> sum += x.need(a);
            case 20 -> sum += x.count(a);
            case 21 -> sum += x.cost(a);
            case 22 -> sum += x.trust(a);
            case 23 -> sum += x.stays(a);
            case 24 -> sum += x.without(w);
            case 25 -> sum += x.with(a, w);
            case 26 -> sum += x.chance(a);
            case 27 -> sum += x.share(a, b);
            case 28 -> sum += x.least(a);
            case 29 -> sum += x.blame(a, b);
            case 30 -> sum += x.lay(a, b, c);
            case 31 -> sum += x.lies(a);
            case 32 -> sum += x.taken(a, b, c);
            case 33 -> sum += x.copy(a, b, c, d, e);
            case 34 -> sum += x.undo();
            case 35 -> sum += x.size(a);
            default -> sum += x.status();
        }
    }

    /** Every call of the face where it makes most, the first ask() of a new object again and again. */
    private static void scenes() {
        for (int q = 0; q < 40; q++) {
            fortyFull(q);
        }
        manyOfEach();
        chains();
        weights();
    }

    /** Forty questions, each within the next ones: all but the first of 32 answers, all but the second of 16 ways each. */
    private static WhereFrom fortyFull() {
        WhereFrom x = new WhereFrom();
        made("table", () -> x.table(1));
        made("table", () -> x.table(2));
        facts(x, 0, 16, 7, 7);
        for (int k = 0; k < 32; k++) {
            int value = k;
            made("fact", () -> x.fact(1, 7, value, 0, 0));
        }
        // With no way whole, MOST takes nothing away from a question by itself.
        for (int k = 0; k < 16; k++) {
            int fact = k;
            made("drop", () -> x.drop(fact, true) ? 1 : 0);
        }
        made("base", () -> x.base(0));
        made("base", () -> x.base(1));
        made("pair", () -> x.pair(0, 1, 0, 0));
        for (int q = 2; q < 38; q += 6) {
            sixMore(x, q, q == 32);
        }
        made("close", () -> x.close(38));
        C.due("forty questions", x.size(2), 40);
        return x;
    }

    /** Upon question q of three places one of each kind; the last one is cut to three places again, or to two. */
    private static void sixMore(WhereFrom x, int q, boolean toTwo) {
        made("either", () -> x.either(q, q));
        made("pick", () -> x.pick(q + 1, 0, 7));
        made("like", () -> x.like(q + 2, 0, 1));
        made("most", () -> x.most(q + 3, q + 3));
        made("pair", () -> x.pair(q + 4, q + 4, 2, 2));
        made("cut", () -> toTwo ? x.cut(q + 5, 2, 2, 5, 0, 0) : x.cut(q + 5, 3, 0, 1, 2, 0));
    }

    private static void fortyFull(int asked) {
        WhereFrom x = fortyFull();
        String ask = "the first ask(" + asked + ") of an object";
        int last = asked == 0 ? 0 : 31;
        C.due(ask, made(ask, () -> x.ask(asked)), last + 1);
        C.due("ways behind " + ask, x.ways(last), asked == 1 ? 1 : 16);
        made("find", () -> x.find(7, 7, 31, 7, 7, 31));
        made("without", () -> x.without(~0L));
        made("stays", () -> x.stays(last));
        made("lay of a row", () -> x.lay(0, 3, 0));
        made("lay of a row", () -> x.lay(1, 3, last));
        C.due("copy", made("copy", () -> x.copy(0, 0, 1, 0, x.kind(asked, 1))), 1);
        C.due("lay", made("lay of ways", () -> x.lay(0, 4, last)), 1);
        made("undo", x::undo);
        made("a further ask", () -> x.ask(39));
    }

    private static void facts(WhereFrom x, int table, int many, int a, int b) {
        for (int k = 0; k < many; k++) {
            made("fact", () -> x.fact(table, a, b, 0, 0));
        }
    }

    private static void refusedAsk(WhereFrom x, int question) {
        String ask = "an ask() refused as MANY";
        C.due(ask, made(ask, () -> x.ask(question)), -1);
        C.due("status behind " + ask, x.status(), 5);
    }

    private static WhereFrom ofTables(int places, int tables) {
        WhereFrom x = new WhereFrom();
        for (int k = 0; k < tables; k++) {
            x.table(places);
            x.base(k);
        }
        return x;
    }

    /** Of each kind one that has too many answers, or an answer with too many ways. */
    private static void manyOfEach() {
        WhereFrom base = ofTables(1, 1);
        for (int k = 0; k < 60; k++) {
            base.fact(0, k, 0, 0, 0);
        }
        refusedAsk(base, 0);
        WhereFrom two = ofTables(2, 2);
        for (int k = 0; k < 60; k++) {
            two.fact(k % 2, 7, k, 0, 0);
        }
        refusedAsk(two, two.either(0, 1));
        refusedAsk(two, two.pair(0, 1, 0, 0));
        refusedAsk(two, two.cut(0, 1, 0, 0, 0, 0));
        WhereFrom like = ofTables(1, 2);
        facts(like, 0, 16, 7, 0);
        facts(like, 1, 16, 7, 0);
        refusedAsk(like, like.pair(0, 1, 0, 0));
        refusedAsk(like, like.either(0, 1));
        WhereFrom far = ofTables(2, 1);
        for (int k = 0; k < 32; k++) {
            far.fact(0, k, k + 1, 0, 0);
        }
        refusedAsk(far, far.close(0));
    }

    /** CLOSE with as many rounds, rows and ways as there can be. */
    private static void chains() {
        WhereFrom far = ofTables(2, 1);
        for (int k = 0; k < 7; k++) {
            far.fact(0, k, k + 1, 0, 0);
        }
        far.close(0);
        C.due("a chain of seven", made("the first ask() of an object, of a chain", () -> far.ask(1)), 28);
        WhereFrom twice = ofTables(2, 1);
        for (int k = 0; k < 8; k++) {
            twice.fact(0, k / 2, k / 2 + 1, 0, 0);
        }
        twice.close(0);
        C.due("a chain of four, each step twice", made("the first ask() of an object, of a double chain", () -> twice.ask(1)), 10);
        C.due("its ways", twice.ways(twice.find(0, 4, 0, 0, 0, 0)), 16);
        WhereFrom ring = ofTables(2, 1);
        for (int k = 0; k < 5; k++) {
            ring.fact(0, k, (k + 1) % 5, 0, 0);
        }
        ring.close(0);
        C.due("a ring of five", made("the first ask() of an object, of a ring", () -> ring.ask(1)), 25);
    }

    private static void weights() {
        WhereFrom x = ofTables(1, 1);
        facts(x, 0, 16, 7, 0);
        made("ask", () -> x.ask(0));
        made("told", () -> x.told(15, 7));
        made("put", () -> x.put(15, 3, 1) ? 1 : 0);
        made("chance", () -> x.chance(0));
        made("share", () -> x.share(0, 15));
        C.due("least", made("least", () -> x.least(0)), 65535);
        C.due("blame", made("blame", () -> x.blame(0, 15)), 15);
        made("lay of a fact", () -> x.lay(0, 1, 15));
        made("lay of a question", () -> x.lay(0, 2, 0));
        C.due("sixteen ways are laid", made("lay of ways", () -> x.lay(0, 4, 0)), 1);
        C.due("and taken", made("taken", () -> x.taken(0, 4, 15)), 32768);
        made("lies", () -> x.lies(0));
        made("undo", x::undo);
    }

    /** Whole runs of 512 calls, the constructor's with them. */
    private static void runs() {
        long start = bytes();
        asks();
        C.holds("512 calls, most of them ask() of forty full questions, stay well within the room", isWellWithin(bytes() - start));
        start = bytes();
        lays();
        C.holds("512 calls, most of them lay() of sixteen ways, stay well within the room", isWellWithin(bytes() - start));
    }

    private static void asks() {
        WhereFrom x = new WhereFrom();
        x.table(2);
        for (int k = 0; k < 60; k++) {
            x.fact(0, k % 6, k % 30 / 6, 0, 0);
        }
        x.base(0);
        for (int q = 1; q < 40; q++) {
            x.either(q - 1, q - 1);
        }
        for (int k = 0; k < 411; k++) {
            sum += x.ask(39);
        }
        C.due("all forty were worked", x.ask(39), 30);
    }

    private static void lays() {
        WhereFrom x = new WhereFrom();
        x.table(1);
        for (int k = 0; k < 16; k++) {
            x.fact(0, 1, 0, 0, 0);
        }
        x.base(0);
        x.ask(0);
        for (int k = 0; k < 490; k++) {
            sum += x.lay(k % 20, 4, 0);
        }
        C.due("sixteen ways lie there", x.taken(19, 4, 15), 32768);
    }
}
