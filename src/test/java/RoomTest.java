import java.lang.management.ManagementFactory;
import java.util.Random;

/** No arguments in any state make the machine throw, and the dearest runs stay within the room. */
public final class RoomTest {
    private static final Check C = new Check("RoomTest");
    private static final int[] ODD = {0, 1, 2, 3, 4, 5, 6, 7, -1, -2, 8, 9, 10, 11, 15, 16, 19, 20, 31, 32, 33, 39, 40, 41, 59, 60, 61, 63, 64, 65,
        100, 1000, 1001, Integer.MAX_VALUE, Integer.MIN_VALUE, Integer.MAX_VALUE - 1, Integer.MIN_VALUE + 1};
    /** A third of the room at 8 bytes for each of its 7.3 million elements. */
    private static final long MOST_BYTES = 20_000_000L;
    private static long sum = 0;

    public static void main(String[] args) {
        for (long seed = 0; seed < 4000; seed++) {
            wild(new WhereFrom(), new Random(seed), 512);
        }
        rooms();
        C.holds("something was answered", sum != 0);
        C.end();
    }

    private static void wild(WhereFrom x, Random r, int calls) {
        for (int k = 0; k < 20; k++) {
            call(x, r, k < 4 ? 0 : k < 16 ? 1 : 5, true);
        }
        for (int k = 20; k < calls; k++) {
            call(x, r, r.nextInt(38), r.nextInt(4) > 0);
        }
        C.holds("a status", x.status() >= 0 && x.status() <= 7);
    }

    private static int arg(Random r, boolean small) {
        return small ? r.nextInt(4) : r.nextInt(10) == 0 ? r.nextInt() : ODD[r.nextInt(ODD.length)];
    }

    private static void call(WhereFrom x, Random r, int which, boolean small) {
        int a = arg(r, small), b = arg(r, small), c = arg(r, small), d = arg(r, small), e = arg(r, small), f = arg(r, small);
        long w = r.nextBoolean() ? r.nextLong() : a;
        switch (which) {
            case 0 -> sum += x.table(small ? 2 : a);
            case 1 -> sum += x.fact(a, b, c, d, e);
            case 2 -> sum += x.drop(a, r.nextBoolean()) ? 1 : 0;
            case 3 -> sum += x.put(a, b, w) ? 1 : 0;
            case 4 -> sum += x.told(a, b);
            case 5 -> sum += x.base(a);
            case 6 -> sum += x.pick(a, b, c);
            case 7 -> sum += x.like(a, b, c);
            case 8 -> sum += x.cut(a, b, c, d, e, f);
            case 9 -> sum += x.pair(a, b, c, d);
            case 10 -> sum += x.either(a, b);
            case 11 -> sum += x.close(a);
            case 12 -> sum += x.most(a, b);
            case 13 -> sum += x.kind(a, b);
            case 14, 37 -> sum += x.ask(r.nextBoolean() ? a : r.nextInt(1 + x.size(2)));
            case 15 -> sum += x.value(a, b);
            case 16 -> sum += x.find(a, b, c, d, e, f);
            case 17 -> sum += x.ways(a);
            case 18 -> sum += x.way(a, b);
            case 19 -> sum += x.need(a);
            case 20 -> sum += x.count(a);
            case 21 -> sum += x.cost(a);
            case 22 -> sum += x.trust(a);
            case 23 -> sum += x.stays(a);
            case 24 -> sum += x.without(w);
            case 25 -> sum += x.with(a, w);
            case 26 -> sum += x.chance(a);
            case 27 -> sum += x.share(a, b);
            case 28 -> sum += x.least(a);
            case 29 -> sum += x.blame(a, b);
            case 30 -> sum += x.lay(a, b, c);
            case 31 -> sum += x.lies(a);
            case 32 -> sum += x.taken(a, b, c);
            case 33 -> sum += x.copy(a, b, c, d, e);
            case 34 -> sum += x.undo();
            case 35 -> sum += x.size(a);
            default -> sum += x.status();
        }
    }

    private static long bytes() {
        return ((com.sun.management.ThreadMXBean) ManagementFactory.getThreadMXBean()).getThreadAllocatedBytes(Thread.currentThread().getId());
    }

    private static void rooms() {
        long start = bytes();
        asks();
        C.holds("512 calls, most of them ask() of forty full questions, stay within the room", bytes() - start < MOST_BYTES);
        start = bytes();
        lays();
        C.holds("512 calls, most of them lay() of sixteen ways, stay within the room", bytes() - start < MOST_BYTES);
        start = bytes();
        for (int k = 0; k < 500; k++) {
            sum += new WhereFrom().table(1);
        }
        C.holds("500 objects stay within the room", bytes() - start < MOST_BYTES);
    }

    private static void asks() {
        WhereFrom x = new WhereFrom();
        x.table(2);
        for (int k = 0; k < 60; k++) {
            x.fact(0, k % 6, k % 30 / 6, 0, 0);
        }
        x.base(0);
        for (int q = 1; q < 40; q++) {
            x.either(q - 1, q - 1);
        }
        for (int k = 0; k < 411; k++) {
            sum += x.ask(39);
        }
        C.due("all forty were worked", x.ask(39), 30);
    }

    private static void lays() {
        WhereFrom x = new WhereFrom();
        x.table(1);
        for (int k = 0; k < 16; k++) {
            x.fact(0, 1, 0, 0, 0);
        }
        x.base(0);
        x.ask(0);
        for (int k = 0; k < 490; k++) {
            sum += x.lay(k % 20, 4, 0);
        }
        C.due("sixteen ways lie there", x.taken(19, 4, 15), 32768);
    }
}
