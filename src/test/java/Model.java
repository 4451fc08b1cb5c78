import java.util.ArrayList;
import java.util.Arrays;
import java.util.HashSet;
import java.util.List;
import java.util.Set;
import java.util.TreeMap;
import java.util.TreeSet;

/** The document once more, written in the plainest way with the Java library: sets of sets, snapshots, every subset tried. */
final class Model {
    static final int NONE = -1;

    record Fact(int table, List<Integer> row, int count, int cost, double trust, int chance, boolean dropped) { }

    record Question(int kind, int places, int one, int other, int[] told, boolean closed) { }

    record Thing(int sort, int number, List<Integer> row, List<Long> ways) { }

    static final class Ans {
        Set<Set<Integer>> ways = new HashSet<>();
        long count;
        long cost;
        double trust;
    }

    static final class Many extends Exception {
        private static final long serialVersionUID = 1L;
    }

    static final class State {
        List<Integer> tables = new ArrayList<>();
        List<Fact> facts = new ArrayList<>();
        List<Question> questions = new ArrayList<>();
        Thing[] shelf = new Thing[20];

        State twin() {
            State t = new State();
            t.tables.addAll(tables);
            t.facts.addAll(facts);
            t.questions.addAll(questions);
            t.shelf = shelf.clone();
            return t;
        }
    }

    State now = new State();
    final List<State> before = new ArrayList<>();
    List<List<Integer>> rows = new ArrayList<>();
    List<Ans> answers = new ArrayList<>();
    boolean closed = false;
    int status = 0;

    private int no(int why) {
        status = why;
        return NONE;
    }

    private void act() {
        status = 0;
        before.add(now);
        if (before.size() > 100) {
            before.remove(0);
        }
        now = now.twin();
    }

    // ---- facts

    int table(int places) {
        if (places < 1 || places > 4) return no(2);
        if (now.tables.size() == 10) return no(4);
        act();
        now.tables.add(places);
        return now.tables.size() - 1;
    }

    int fact(int table, int a, int b, int c, int d) {
        if (table < 0 || table >= now.tables.size()) return no(1);
        if (now.facts.size() == 60) return no(4);
        act();
        now.facts.add(new Fact(table, List.of(a, b, c, d).subList(0, now.tables.get(table)), 1, 1, 1.0, 4, false));
        return now.facts.size() - 1;
    }

    boolean isFact(int f) {
        return f >= 0 && f < now.facts.size();
    }

    boolean drop(int f, boolean away) {
        if (!isFact(f)) { no(1); return false; }
        act();
        Fact o = now.facts.get(f);
        now.facts.set(f, new Fact(o.table, o.row, o.count, o.cost, o.trust, o.chance, away));
        return true;
    }

    boolean put(int f, int what, long v) {
        if (!isFact(f)) { no(1); return false; }
        double t = Double.longBitsToDouble(v);
        boolean fits = what == 0 ? v >= 0 && v <= 9 : what == 1 ? v >= 0 && v <= 1000
            : what == 2 ? t >= 0.0 && t <= 1.0 && v != Long.MIN_VALUE : what == 3 && v >= 0 && v <= 8;
        if (!fits) { no(2); return false; }
        act();
        Fact o = now.facts.get(f);
        now.facts.set(f, new Fact(o.table, o.row, what == 0 ? (int) v : o.count, what == 1 ? (int) v : o.cost,
            what == 2 ? t : o.trust, what == 3 ? (int) v : o.chance, o.dropped));
        return true;
    }

    long told(int f, int what) {
        if (!isFact(f)) return NONE;
        Fact o = now.facts.get(f);
        return switch (what) {
            case 0 -> o.count;
            case 1 -> o.cost;
            case 2 -> Double.doubleToRawLongBits(o.trust);
            case 3 -> o.chance;
            case 4 -> o.dropped ? 1 : 0;
            case 5 -> o.table;
            case 6 -> o.row.size();
            case 7, 8, 9, 10 -> what - 7 < o.row.size() ? o.row.get(what - 7) : NONE;
            default -> NONE;
        };
    }

    // ---- questions

    private Question q(int n) {
        return n >= 0 && n < now.questions.size() ? now.questions.get(n) : null;
    }

    private int made(Question made) {
        if (now.questions.size() == 40) return no(4);
        act();
        now.questions.add(made);
        return now.questions.size() - 1;
    }

    private static boolean in(Question q, int place) {
        return place >= 0 && place < q.places;
    }

    int base(int table) {
        if (table < 0 || table >= now.tables.size()) return no(1);
        return made(new Question(0, now.tables.get(table), table, NONE, null, false));
    }

    int pick(int n, int place, int value) {
        if (q(n) == null) return no(1);
        if (!in(q(n), place)) return no(2);
        return made(new Question(1, q(n).places, n, NONE, new int[] {place, value}, q(n).closed));
    }

    int like(int n, int one, int other) {
        if (q(n) == null) return no(1);
        if (!in(q(n), one) || !in(q(n), other)) return no(2);
        return made(new Question(2, q(n).places, n, NONE, new int[] {one, other}, q(n).closed));
    }

    int cut(int n, int many, int a, int b, int c, int d) {
        if (q(n) == null) return no(1);
        if (many < 1 || many > 4) return no(2);
        int[] places = Arrays.copyOf(new int[] {a, b, c, d}, many);
        for (int p : places) if (!in(q(n), p)) return no(2);
        return made(new Question(3, many, n, NONE, places, q(n).closed));
    }

    int pair(int one, int other, int place, int like) {
        if (q(one) == null || q(other) == null) return no(1);
        if (!in(q(one), place) || !in(q(other), like)) return no(2);
        int places = q(one).places + q(other).places;
        if (places > 6) return no(3);
        return made(new Question(4, places, one, other, new int[] {place, like}, q(one).closed || q(other).closed));
    }

    int either(int one, int other) {
        if (q(one) == null || q(other) == null) return no(1);
        if (q(one).places != q(other).places) return no(3);
        return made(new Question(5, q(one).places, one, other, null, q(one).closed || q(other).closed));
    }

    int close(int n) {
        if (q(n) == null) return no(1);
        if (q(n).places != 2) return no(3);
        return made(new Question(6, 2, n, NONE, null, true));
    }

    int most(int one, int other) {
        if (q(one) == null || q(other) == null) return no(1);
        if (q(one).places != q(other).places) return no(3);
        return made(new Question(7, q(one).places, one, other, null, q(one).closed || q(other).closed));
    }

    int kind(int n, int what) {
        if (q(n) == null) return NONE;
        return switch (what) {
            case 0 -> q(n).kind;
            case 1 -> q(n).places;
            case 2 -> q(n).one;
            case 3 -> q(n).other;
            case 4 -> q(n).closed ? 1 : 0;
            default -> NONE;
        };
    }

    // ---- the working out

    private static TreeMap<List<Integer>, Ans> fresh() {
        return new TreeMap<>((x, y) -> {
            for (int k = 0; k < x.size(); k++) {
                int c = Integer.compare(x.get(k), y.get(k));
                if (c != 0) return c;
            }
            return 0;
        });
    }

    static Set<Set<Integer>> least(Set<Set<Integer>> all) {
        Set<Set<Integer>> out = new HashSet<>();
        for (Set<Integer> w : all) {
            boolean is = true;
            for (Set<Integer> v : all) if (!v.equals(w) && w.containsAll(v)) is = false;
            if (is) out.add(w);
        }
        return out;
    }

    private static void come(TreeMap<List<Integer>, Ans> out, List<Integer> row, Set<Set<Integer>> ways, long count, long cost, double trust) {
        Ans a = out.get(row);
        if (a == null) {
            a = new Ans();
            a.cost = cost;
            a.trust = trust;
            out.put(row, a);
        }
        a.ways.addAll(ways);
        a.count += count;
        a.cost = Math.min(a.cost, cost);
        a.trust = Math.max(a.trust, trust);
    }

    private static TreeMap<List<Integer>, Ans> settled(TreeMap<List<Integer>, Ans> out) throws Many {
        if (out.size() > 32) throw new Many();
        for (Ans a : out.values()) {
            a.ways = least(a.ways);
            if (a.ways.size() > 16) throw new Many();
        }
        return out;
    }

    static Set<Set<Integer>> unions(Set<Set<Integer>> one, Set<Set<Integer>> other) {
        Set<Set<Integer>> out = new HashSet<>();
        for (Set<Integer> v : one) for (Set<Integer> w : other) {
            Set<Integer> u = new HashSet<>(v);
            u.addAll(w);
            out.add(u);
        }
        return out;
    }

    private boolean isTrue(Ans a) {
        for (Set<Integer> w : a.ways) {
            boolean whole = true;
            for (int f : w) if (now.facts.get(f).dropped) whole = false;
            if (whole) return true;
        }
        return false;
    }

    private TreeMap<List<Integer>, Ans> work(int n, TreeMap<Integer, TreeMap<List<Integer>, Ans>> known) throws Many {
        if (known.containsKey(n)) return known.get(n);
        Question q = q(n);
        TreeMap<List<Integer>, Ans> out = fresh();
        TreeMap<List<Integer>, Ans> one = q.kind == 0 ? null : work(q.one, known);
        TreeMap<List<Integer>, Ans> other = q.other == NONE ? null : work(q.other, known);
        switch (q.kind) {
            case 0 -> {
                for (int f = 0; f < now.facts.size(); f++) {
                    Fact o = now.facts.get(f);
                    if (o.table == q.one) come(out, o.row, Set.of(Set.of(f)), o.count, o.cost, o.trust);
                }
            }
            case 1 -> one.forEach((r, a) -> { if (r.get(q.told[0]) == q.told[1]) out.put(r, a); });
            case 2 -> one.forEach((r, a) -> { if (r.get(q.told[0]).equals(r.get(q.told[1]))) out.put(r, a); });
            case 3 -> one.forEach((r, a) -> {
                List<Integer> row = new ArrayList<>();
                for (int p : q.told) row.add(r.get(p));
                come(out, row, a.ways, a.count, a.cost, a.trust);
            });
            case 4 -> one.forEach((r, a) -> other.forEach((s, b) -> {
                if (!r.get(q.told[0]).equals(s.get(q.told[1]))) return;
                List<Integer> row = new ArrayList<>(r);
                row.addAll(s);
                come(out, row, unions(a.ways, b.ways), a.count * b.count, Math.min(1000000000L, a.cost + b.cost), Math.min(a.trust, b.trust));
            }));
            case 5 -> {
                one.forEach((r, a) -> come(out, r, a.ways, a.count, a.cost, a.trust));
                other.forEach((r, a) -> come(out, r, a.ways, a.count, a.cost, a.trust));
            }
            case 6 -> out.putAll(closing(one));
            default -> one.forEach((r, a) -> { if (!other.containsKey(r) || !isTrue(other.get(r))) out.put(r, a); });
        }
        known.put(n, settled(out));
        return out;
    }

    private TreeMap<List<Integer>, Ans> closing(TreeMap<List<Integer>, Ans> steps) throws Many {
        TreeMap<List<Integer>, Ans> chains = fresh();
        steps.forEach((r, a) -> come(chains, r, a.ways, 0, a.cost, a.trust));
        while (true) {
            TreeMap<List<Integer>, Ans> next = fresh();
            chains.forEach((r, a) -> come(next, r, a.ways, 0, a.cost, a.trust));
            chains.forEach((r, a) -> steps.forEach((s, b) -> {
                if (r.get(1).equals(s.get(0))) {
                    come(next, List.of(r.get(0), s.get(1)), unions(a.ways, b.ways), 0, 0, 0.0);
                }
            }));
            settled(next);
            boolean same = next.size() == chains.size();
            for (List<Integer> r : next.keySet()) {
                same = same && chains.containsKey(r) && chains.get(r).ways.equals(next.get(r).ways);
            }
            if (same) break;
            chains.clear();
            chains.putAll(next);
        }
        weighChains(steps, chains);
        return chains;
    }

    /** By the nodes that a chain may go through, one after the other. */
    private static void weighChains(TreeMap<List<Integer>, Ans> steps, TreeMap<List<Integer>, Ans> chains) {
        List<Integer> nodes = new ArrayList<>(new TreeSet<>(steps.keySet().stream().flatMap(List::stream).toList()));
        int n = nodes.size();
        long[][] cost = new long[n][n];
        double[][] trust = new double[n][n];
        for (int i = 0; i < n; i++) for (int j = 0; j < n; j++) {
            Ans a = steps.get(List.of(nodes.get(i), nodes.get(j)));
            cost[i][j] = a == null ? 1L << 40 : a.cost;
            trust[i][j] = a == null ? -1.0 : a.trust;
        }
        for (int k = 0; k < n; k++) for (int i = 0; i < n; i++) for (int j = 0; j < n; j++) {
            cost[i][j] = Math.min(cost[i][j], cost[i][k] + cost[k][j]);
            trust[i][j] = Math.max(trust[i][j], Math.min(trust[i][k], trust[k][j]));
        }
        chains.forEach((r, a) -> {
            a.cost = Math.min(1000000000L, cost[nodes.indexOf(r.get(0))][nodes.indexOf(r.get(1))]);
            a.trust = trust[nodes.indexOf(r.get(0))][nodes.indexOf(r.get(1))];
        });
    }

    // ---- answers

    int ask(int n) {
        if (q(n) == null) return no(1);
        TreeMap<List<Integer>, Ans> out;
        try {
            out = work(n, new TreeMap<>());
        } catch (Many m) {
            return no(5);
        }
        rows = new ArrayList<>(out.keySet());
        answers = new ArrayList<>();
        for (Ans a : out.values()) {
            answers.add(a);
        }
        closed = q(n).closed;
        status = 0;
        return rows.size();
    }

    Ans answer(int i) {
        return i >= 0 && i < answers.size() ? answers.get(i) : null;
    }

    int value(int i, int k) {
        return answer(i) == null || k < 0 || k >= rows.get(i).size() ? 0 : rows.get(i).get(k);
    }

    int find(int... row) {
        for (int i = 0; i < rows.size(); i++) {
            boolean is = true;
            for (int k = 0; k < rows.get(i).size(); k++) is = is && rows.get(i).get(k) == row[k];
            if (is) return i;
        }
        return NONE;
    }

    static long bits(Set<Integer> facts) {
        long b = 0;
        for (int f : facts) b |= 1L << f;
        return b;
    }

    static List<Long> sorted(Ans a) {
        return a.ways.stream().map(Model::bits).sorted().toList();
    }

    int ways(int i) {
        return answer(i) == null ? NONE : answer(i).ways.size();
    }

    long way(int i, int k) {
        return answer(i) == null || k < 0 || k >= ways(i) ? 0 : sorted(answer(i)).get(k);
    }

    long need(int i) {
        if (answer(i) == null) return 0;
        long all = -1;
        for (Set<Integer> w : answer(i).ways) all &= bits(w);
        return all;
    }

    long count(int i) {
        if (answer(i) == null) { no(1); return 0; }
        if (closed) { no(6); return 0; }
        status = 0;
        return answer(i).count;
    }

    int cost(int i) {
        if (answer(i) == null) return no(1);
        status = 0;
        return (int) answer(i).cost;
    }

    long trust(int i) {
        if (answer(i) == null) return no(1);
        status = 0;
        return Double.doubleToRawLongBits(answer(i).trust);
    }

    int stays(int i) {
        if (answer(i) == null) return no(1);
        status = 0;
        return isTrue(answer(i)) ? 1 : 0;
    }

    private static boolean there(Ans a, long facts) {
        for (Set<Integer> w : a.ways) if (w.stream().allMatch(f -> (facts >> f & 1) == 1)) return true;
        return false;
    }

    int without(long facts) {
        int n = 0;
        for (Ans a : answers) if (!there(a, facts)) n++;
        return n;
    }

    int with(int i, long facts) {
        if (answer(i) == null) return no(1);
        status = 0;
        return there(answer(i), facts) ? 1 : 0;
    }

    private List<Integer> all(int i) {
        Set<Integer> all = new TreeSet<>();
        for (Set<Integer> w : answer(i).ways) all.addAll(w);
        return new ArrayList<>(all);
    }

    private static long spread(List<Integer> facts, int subset) {
        long b = 0;
        for (int k = 0; k < facts.size(); k++) if ((subset >> k & 1) == 1) b |= 1L << facts.get(k);
        return b;
    }

    private long chance(int i, int fact, int eighths) {
        List<Integer> facts = all(i);
        long sum = 0;
        for (int s = 0; s < 1 << facts.size(); s++) {
            if (!there(answer(i), spread(facts, s))) continue;
            long p = 1;
            for (int k = 0; k < 16; k++) {
                if (k >= facts.size()) { p *= 8; continue; }
                int e = facts.get(k) == fact ? eighths : now.facts.get(facts.get(k)).chance;
                p *= (s >> k & 1) == 1 ? e : 8 - e;
            }
            sum += p;
        }
        return sum;
    }

    long chance(int i) {
        if (answer(i) == null) return no(1);
        if (all(i).size() > 16) return no(6);
        status = 0;
        return chance(i, NONE, 0);
    }

    long share(int i, int fact) {
        if (answer(i) == null || !isFact(fact)) return no(1);
        if (all(i).size() > 16) return no(6);
        status = 0;
        return chance(i, fact, 8) - chance(i, fact, 0);
    }

    long least(int i) {
        if (answer(i) == null) return no(1);
        List<Integer> facts = all(i);
        if (facts.size() > 16) return no(6);
        status = 0;
        long best = -1;
        for (int s = 0; s < 1 << facts.size(); s++) {
            long b = spread(facts, s);
            if (there(answer(i), ~b)) continue;
            if (best == -1 || Long.bitCount(b) < Long.bitCount(best) || Long.bitCount(b) == Long.bitCount(best) && b < best) best = b;
        }
        return best;
    }

    int blame(int i, int fact) {
        if (answer(i) == null || !isFact(fact)) return no(1);
        List<Integer> facts = all(i);
        if (facts.size() > 16) return no(6);
        int best = NONE;
        for (int s = 0; s < 1 << facts.size(); s++) {
            long gone = spread(facts, s);
            if ((gone >> fact & 1) == 1 || !there(answer(i), ~gone) || there(answer(i), ~(gone | 1L << fact))) continue;
            if (best == NONE || Long.bitCount(gone) < best) best = Long.bitCount(gone);
        }
        if (best == NONE) return no(6);
        status = 0;
        return best;
    }

    // ---- the shelf

    int lay(int k, int sort, int n) {
        if (k < 0 || k >= 20) return no(1);
        Thing t = null;
        switch (sort) {
            case 0: break;
            case 1: if (!isFact(n)) return no(1); t = new Thing(1, n, null, null); break;
            case 2: if (q(n) == null) return no(1); t = new Thing(2, n, null, null); break;
            case 3: if (answer(n) == null) return no(1); t = new Thing(3, 0, List.copyOf(rows.get(n)), null); break;
            case 4: if (answer(n) == null) return no(1); t = new Thing(4, 0, null, sorted(answer(n))); break;
            default: return no(2);
        }
        act();
        now.shelf[k] = t;
        return 1;
    }

    int lies(int k) {
        if (k < 0 || k >= 20) return no(1);
        status = 0;
        return now.shelf[k] == null ? 0 : now.shelf[k].sort;
    }

    long taken(int k, int sort, int i) {
        if (k < 0 || k >= 20) return no(1);
        if (sort < 1 || sort > 4) return no(2);
        Thing t = now.shelf[k];
        if (t == null || t.sort != sort) return no(7);
        if (sort == 3 && (i < 0 || i >= t.row.size()) || sort == 4 && (i < 0 || i >= t.ways.size())) return no(1);
        status = 0;
        return sort == 3 ? t.row.get(i) : sort == 4 ? t.ways.get(i) : t.number;
    }

    int copy(int j, int i, int k, int m, int n) {
        if (j < 0 || j >= 20 || k < 0 || k >= 20) return no(1);
        Thing from = now.shelf[j];
        Thing to = now.shelf[k];
        if (from == null || to == null || from.sort != 3 || to.sort != 3) return no(7);
        if (i < 0 || m < 0 || n < 0 || (long) i + n > from.row.size() || (long) m + n > to.row.size()) return no(2);
        act();
        List<Integer> row = new ArrayList<>(to.row);
        for (int x = 0; x < n; x++) row.set(m + x, from.row.get(i + x));
        now.shelf[k] = new Thing(3, 0, row, null);
        return 1;
    }

    int undo() {
        if (before.isEmpty()) return 0;
        State then = before.remove(before.size() - 1);
        if (then.facts.size() < now.facts.size() || then.tables.size() < now.tables.size()) {
            rows = new ArrayList<>();
            answers = new ArrayList<>();
        }
        now = then;
        return 1;
    }

    int size(int what) {
        return switch (what) {
            case 0 -> now.tables.size();
            case 1 -> now.facts.size();
            case 2 -> now.questions.size();
            case 3 -> rows.size();
            case 4 -> before.size();
            default -> NONE;
        };
    }
}
