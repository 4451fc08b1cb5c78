import java.util.Random;

/** Runs of random calls on the class and on the model side by side: every answer and every status must be alike. */
public final class ModelTest {
    private static final Check CHECK = new Check("ModelTest");
    private static final long[] TRUSTS = {0L, Double.doubleToRawLongBits(0.25), Double.doubleToRawLongBits(0.5),
        Double.doubleToRawLongBits(0.75), Double.doubleToRawLongBits(1.0), 1L, Double.doubleToRawLongBits(-0.0),
        Double.doubleToRawLongBits(1.0) + 1, Double.doubleToRawLongBits(Double.NaN), -1L, Double.doubleToRawLongBits(-0.5)};
    static final int[] SEEN = new int[8];

    private final Random random;
    private final WhereFrom x = new WhereFrom();
    private final Model m = new Model();
    private final int spread;
    private final int factsWanted;
    private final int shape;
    private final String run;
    private final StringBuilder calls = new StringBuilder();

    private ModelTest(long seed) {
        random = new Random(seed);
        spread = 2 + random.nextInt(5);
        factsWanted = random.nextInt(4) == 0 ? 60 : 4 + random.nextInt(16);
        shape = random.nextInt(3);
        run = "seed " + seed + ", ";
    }

    public static void main(String[] args) {
        int runs = args.length > 0 ? Integer.parseInt(args[0]) : 250;
        for (long seed = 0; seed < runs && !CHECK.isWrong(); seed++) {
            new ModelTest(seed).play();
        }
        for (int s = 0; s < 8; s++) {
            CHECK.holds("status " + s + " came up often", SEEN[s] > 50);
        }
        CHECK.end();
    }

    private int n(int bound) {
        return random.nextInt(Math.max(1, bound));
    }

    /** Mostly a number below the bound, now and then one off it. */
    private int near(int bound) {
        int r = random.nextInt(40);
        return r == 0 ? -1 : r == 1 ? bound : r == 2 ? (random.nextBoolean() ? Integer.MIN_VALUE : Integer.MAX_VALUE) : n(bound);
    }

    private int v() {
        return n(spread) - 1;
    }

    private void same(String call, long got, long want) {
        calls.append(call).append(" = ").append(want).append('\n');
        CHECK.due(run + call, got, want);
        CHECK.due(run + "status behind " + call, x.status(), m.status);
        SEEN[m.status & 7]++;
    }

    private void play() {
        for (int k = 0; k < 500 && !CHECK.isWrong(); k++) {
            if (m.now.tables.isEmpty() || m.now.tables.size() < 3 && n(20) == 0) {
                int places = shape == 0 ? 2 : near(5);
                same("table " + places, x.table(places), m.table(places));
            } else if (m.now.facts.size() < factsWanted && n(3) > 0) {
                fact();
            } else {
                any();
            }
        }
        if (CHECK.isWrong()) {
            System.out.println(calls);
        }
    }

    private void fact() {
        int t = near(m.now.tables.size());
        int a = v(), b = v(), c = v(), d = v();
        same("fact " + t + " " + a + " " + b + " " + c + " " + d, x.fact(t, a, b, c, d), m.fact(t, a, b, c, d));
    }

    private void any() {
        switch (n(8)) {
            case 0 -> weight();
            case 1, 2 -> question();
            case 3 -> shelf();
            case 4 -> {
                if (n(4) == 0) same("undo", x.undo(), m.undo());
            }
            default -> {
                int q = n(3) == 0 ? near(m.now.questions.size()) : m.now.questions.size() - 1 - n(3);
                same("ask " + q, x.ask(q), m.ask(q));
                read();
            }
        }
    }

    private void weight() {
        int f = near(m.now.facts.size());
        if (n(3) == 0) {
            boolean away = random.nextBoolean();
            same("drop " + f + " " + away, x.drop(f, away) ? 1 : 0, m.drop(f, away) ? 1 : 0);
            return;
        }
        int what = near(4);
        long v = what == 2 ? TRUSTS[n(TRUSTS.length)] : what == 0 ? near(10) : what == 1 ? near(1001) : near(9);
        same("put " + f + " " + what + " " + v, x.put(f, what, v) ? 1 : 0, m.put(f, what, v) ? 1 : 0);
        for (int w = -1; w < 12; w++) {
            same("told " + f + " " + w, x.told(f, w), m.told(f, w));
        }
    }

    private void question() {
        int one = near(m.now.questions.size());
        int other = near(m.now.questions.size());
        int places = m.kind(one, 1);
        int a = near(places), b = near(places), c = near(places), d = near(places);
        switch (n(9)) {
            case 0, 8 -> {
                int t = near(m.now.tables.size());
                same("base " + t, x.base(t), m.base(t));
            }
            case 1 -> {
                int v = v();
                same("pick " + one + " " + a + " " + v, x.pick(one, a, v), m.pick(one, a, v));
            }
            case 2 -> same("like " + one + " " + a + " " + b, x.like(one, a, b), m.like(one, a, b));
            case 3 -> {
                int many = n(3) == 0 ? near(6) : 2;
                same("cut " + one + " " + many + " " + a + " " + b + " " + c + " " + d, x.cut(one, many, a, b, c, d), m.cut(one, many, a, b, c, d));
            }
            case 4 -> {
                int l = near(m.kind(other, 1));
                same("pair " + one + " " + other + " " + a + " " + l, x.pair(one, other, a, l), m.pair(one, other, a, l));
            }
            case 5 -> same("either " + one + " " + other, x.either(one, other), m.either(one, other));
            case 6 -> same("close " + one, x.close(one), m.close(one));
            default -> same("most " + one + " " + other, x.most(one, other), m.most(one, other));
        }
        int last = m.now.questions.size() - 1;
        for (int w = -1; w < 6; w++) {
            same("kind " + last + " " + w, x.kind(last, w), m.kind(last, w));
        }
    }

    private void read() {
        for (int i = -1; i <= m.rows.size(); i++) {
            for (int k = -1; k < 7; k++) {
                same("value " + i + " " + k, x.value(i, k), m.value(i, k));
            }
            same("ways " + i, x.ways(i), m.ways(i));
            for (int k = -1; k <= m.ways(i) && n(2) == 0; k++) {
                same("way " + i + " " + k, x.way(i, k), m.way(i, k));
            }
            for (int k = -1; k <= m.ways(i); k++) {
                CHECK.due(run + "way " + i + " " + k, x.way(i, k), m.way(i, k));
            }
            same("need " + i, x.need(i), m.need(i));
            same("count " + i, x.count(i), m.count(i));
            same("cost " + i, x.cost(i), m.cost(i));
            same("trust " + i, x.trust(i), m.trust(i));
            same("stays " + i, x.stays(i), m.stays(i));
        }
        long bits = random.nextLong() | random.nextLong();
        int i = near(m.rows.size());
        same("with " + i + " " + bits, x.with(i, bits), m.with(i, bits));
        same("without " + bits, x.without(bits), m.without(bits));
        int[] f = new int[6];
        for (int k = 0; k < 6; k++) {
            f[k] = m.answer(i) != null && k < m.rows.get(i).size() && n(8) > 0 ? m.rows.get(i).get(k) : v();
        }
        same("find", x.find(f[0], f[1], f[2], f[3], f[4], f[5]), m.find(f));
        weigh(i);
    }

    private void weigh(int i) {
        long any = 0;
        for (int k = 0; k < m.ways(i); k++) {
            any |= m.way(i, k);
        }
        // Every subset is tried by the model: the big ones are left to be rare.
        if (Long.bitCount(any) > 10 && Long.bitCount(any) <= 16 && n(40) > 0) {
            return;
        }
        int fact = near(m.now.facts.size());
        for (int tries = 0; tries < 20 && any != 0 && (fact < 0 || (any >>> fact & 1) == 0) && n(4) > 0; tries++) {
            fact = n(m.now.facts.size());
        }
        same("chance " + i, x.chance(i), m.chance(i));
        same("share " + i + " " + fact, x.share(i, fact), m.share(i, fact));
        same("least " + i, x.least(i), m.least(i));
        same("blame " + i + " " + fact, x.blame(i, fact), m.blame(i, fact));
    }

    private void shelf() {
        int k = near(5);
        int sort = near(5);
        int i = near(sort == 1 ? m.now.facts.size() : sort == 2 ? m.now.questions.size() : m.rows.size());
        if (n(3) > 0) {
            same("lay " + k + " " + sort + " " + i, x.lay(k, sort, i), m.lay(k, sort, i));
        } else {
            int j = near(5), from = near(3), to = near(3), many = near(3);
            same("copy " + j + " " + from + " " + k + " " + to + " " + many, x.copy(j, from, k, to, many), m.copy(j, from, k, to, many));
        }
        same("lies " + k, x.lies(k), m.lies(k));
        for (int s = 0; s < 6; s++) {
            for (int at = -1; at < 3; at++) {
                same("taken " + k + " " + s + " " + at, x.taken(k, s, at), m.taken(k, s, at));
            }
        }
        for (int w = -1; w < 6; w++) {
            same("size " + w, x.size(w), m.size(w));
        }
    }
}
