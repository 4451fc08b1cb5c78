import java.util.Arrays;

/** Facts in tables, questions built of one another, and where each answer comes from. */
public final class WhereFrom {
    public static final int NONE = -1;

    private static final int MOST_TABLES = 10;
    private static final int TABLE_PLACES = 4;
    private static final int MOST_FACTS = 60;
    private static final int MOST_QUESTIONS = 40;
    private static final int MOST_PLACES = 6;
    private static final int MOST_ANSWERS = 32;
    private static final int MOST_WAYS = 16;
    private static final int SHELF_PLACES = 20;
    private static final int MOST_ACTS = 100;
    private static final int WEIGHED_FACTS = 16;
    private static final int MOST_COST = 1000000000;
    /** What comes to rows at once: all facts to a BASE, or the answers of two questions to an EITHER. */
    private static final int MOST_RAW = 64;
    /** A round of CLOSE brings to one row its own ways and, for each row it has, a union of every two. */
    private static final int MOST_GATHERED = MOST_WAYS + MOST_ANSWERS * MOST_WAYS * MOST_WAYS;
    /** Far above the some 32 rounds after which no least chain of 32 rows can be new. */
    private static final int MOST_ROUNDS = 1000;

    private static final int FINE = 0;
    private static final int NONE_SUCH = 1;
    private static final int A_NUMBER = 2;
    private static final int OTHER_PLACES = 3;
    private static final int NO_ROOM = 4;
    private static final int MANY = 5;
    private static final int NOT_TOLD = 6;
    private static final int ANOTHER_THING = 7;

    private static final int COUNT = 0;
    private static final int COST = 1;
    private static final int TRUST = 2;
    private static final int CHANCE = 3;
    private static final int WEIGHTS = 4;
    /** Doubles from 0 on are in the order of their bits, so TRUST is held and weighed as bits: here those of 1.0. */
    private static final long FULL_TRUST = 4607182418800017408L;
    private static final long[] MOST_WEIGHT = {9L, 1000L, FULL_TRUST, 8L};
    private static final long[] FIRST_WEIGHT = {1L, 1L, FULL_TRUST, 4L};

    private static final int BASE = 0;
    private static final int PICK = 1;
    private static final int LIKE = 2;
    private static final int CUT = 3;
    private static final int PAIR = 4;
    private static final int EITHER = 5;
    private static final int CLOSE = 6;
    private static final int MOST = 7;

    private static final int NOTHING = 0;
    private static final int A_FACT = 1;
    private static final int A_QUESTION = 2;
    private static final int A_ROW = 3;
    private static final int SOME_WAYS = 4;

    private static final int ACT_TABLE = 0;
    private static final int ACT_FACT = 1;
    private static final int ACT_DROP = 2;
    private static final int ACT_PUT = 3;
    private static final int ACT_QUESTION = 4;
    private static final int ACT_SHELF = 5;

    private final Facts facts;
    private final Question[] questions;
    private int questionCount;
    private final Asker asker;
    private final Answers latest;
    private boolean latestClosed;
    private final Chances chances;
    private final Hits hits;
    private final Thing[] shelf;
    private final Acts acts;
    private int said;

    public WhereFrom() {
        facts = new Facts();
        questions = new Question[MOST_QUESTIONS];
        asker = new Asker(facts, questions);
        latest = new Answers(MOST_ANSWERS);
        chances = new Chances();
        hits = new Hits();
        shelf = new Thing[SHELF_PLACES];
        acts = new Acts();
    }

    // ---- facts

    public int table(int places) {
        if (places < 1 || places > TABLE_PLACES) {
            return refused(A_NUMBER);
        }
        if (facts.tables >= MOST_TABLES) {
            return refused(NO_ROOM);
        }
        accepted(new Act(ACT_TABLE, 0, 0, 0L, null));
        return facts.newTable(places);
    }

    public int fact(int table, int a, int b, int c, int d) {
        if (!facts.isTable(table)) {
            return refused(NONE_SUCH);
        }
        if (facts.known >= MOST_FACTS) {
            return refused(NO_ROOM);
        }
        accepted(new Act(ACT_FACT, 0, 0, 0L, null));
        return facts.newFact(table, a, b, c, d);
    }

    public boolean drop(int fact, boolean away) {
        if (!facts.isFact(fact)) {
            said = NONE_SUCH;
            return false;
        }
        accepted(new Act(ACT_DROP, fact, 0, facts.isDropped(fact) ? 1L : 0L, null));
        facts.markDropped(fact, away);
        return true;
    }

    public boolean put(int fact, int what, long v) {
        if (!facts.isFact(fact)) {
            said = NONE_SUCH;
            return false;
        }
        if (what < 0 || what >= WEIGHTS || v < 0 || v > MOST_WEIGHT[what]) {
            said = A_NUMBER;
            return false;
        }
        accepted(new Act(ACT_PUT, fact, what, facts.weight(fact, what), null));
        facts.weigh(fact, what, v);
        return true;
    }

    public long told(int fact, int what) {
        if (!facts.isFact(fact) || what < 0) {
            return NONE;
        }
        if (what < WEIGHTS) {
            return facts.weight(fact, what);
        }
        int places = facts.placesOf(fact);
        switch (what) {
            case 4:
                return facts.isDropped(fact) ? 1L : 0L;
            case 5:
                return facts.home[fact];
            case 6:
                return places;
            default:
                return what - 7 < places ? facts.cell(fact, what - 7) : NONE;
        }
    }

    // ---- questions

    public int base(int table) {
        if (!facts.isTable(table)) {
            return refused(NONE_SUCH);
        }
        return asked(new Question(BASE, facts.places[table], table, NONE, false));
    }

    public int pick(int question, int place, int value) {
        if (!isQuestion(question)) {
            return refused(NONE_SUCH);
        }
        if (!hasPlace(question, place)) {
            return refused(A_NUMBER);
        }
        Question made = oneQuestion(PICK, question, questions[question].places);
        made.tell(place, value);
        return asked(made);
    }

    public int like(int question, int one, int other) {
        if (!isQuestion(question)) {
            return refused(NONE_SUCH);
        }
        if (!hasPlace(question, one) || !hasPlace(question, other)) {
            return refused(A_NUMBER);
        }
        Question made = oneQuestion(LIKE, question, questions[question].places);
        made.tell(one, other);
        return asked(made);
    }

    public int cut(int question, int n, int a, int b, int c, int d) {
        if (!isQuestion(question)) {
            return refused(NONE_SUCH);
        }
        if (n < 1 || n > 4 || !hasPlace(question, a) || n > 1 && !hasPlace(question, b)
                || n > 2 && !hasPlace(question, c) || n > 3 && !hasPlace(question, d)) {
            return refused(A_NUMBER);
        }
        Question made = oneQuestion(CUT, question, n);
        made.tell(a, b);
        made.tellMore(c, d);
        return asked(made);
    }

    public int pair(int one, int other, int place, int like) {
        if (!isQuestion(one) || !isQuestion(other)) {
            return refused(NONE_SUCH);
        }
        if (!hasPlace(one, place) || !hasPlace(other, like)) {
            return refused(A_NUMBER);
        }
        int places = questions[one].places + questions[other].places;
        if (places > MOST_PLACES) {
            return refused(OTHER_PLACES);
        }
        Question made = twoQuestions(PAIR, one, other, places);
        made.tell(place, like);
        return asked(made);
    }

    public int either(int one, int other) {
        return ofAsManyPlaces(EITHER, one, other);
    }

    public int close(int question) {
        if (!isQuestion(question)) {
            return refused(NONE_SUCH);
        }
        if (questions[question].places != 2) {
            return refused(OTHER_PLACES);
        }
        return asked(new Question(CLOSE, 2, question, NONE, true));
    }

    public int most(int one, int other) {
        return ofAsManyPlaces(MOST, one, other);
    }

    public int kind(int question, int what) {
        if (!isQuestion(question)) {
            return NONE;
        }
        Question q = questions[question];
        switch (what) {
            case 0:
                return q.sort;
            case 1:
                return q.places;
            case 2:
                return q.one;
            case 3:
                return q.other;
            case 4:
                return q.closed ? 1 : 0;
            default:
                return NONE;
        }
    }

    // ---- answers

    public int ask(int question) {
        if (!isQuestion(question)) {
            return refused(NONE_SUCH);
        }
        Answers found = asker.answersTo(question);
        if (found == null) {
            return refused(MANY);
        }
        latest.takeAll(found);
        latestClosed = questions[question].closed;
        said = FINE;
        return latest.n;
    }

    public int value(int i, int k) {
        Answer answer = latest.at(i);
        if (answer == null || k < 0 || k >= latest.places) {
            return 0;
        }
        return answer.row[k];
    }

    public int find(int a, int b, int c, int d, int e, int f) {
        int[] row = {a, b, c, d, e, f};
        return latest.spot(row);
    }

    public int ways(int i) {
        Answer answer = latest.at(i);
        return answer == null ? NONE : answer.wayCount;
    }

    public long way(int i, int k) {
        Answer answer = latest.at(i);
        if (answer == null || k < 0 || k >= answer.wayCount) {
            return 0L;
        }
        return answer.ways[k];
    }

    public long need(int i) {
        Answer answer = latest.at(i);
        return answer == null ? 0L : answer.inEveryWay();
    }

    public long count(int i) {
        Answer answer = latest.at(i);
        if (answer == null || latestClosed) {
            said = answer == null ? NONE_SUCH : NOT_TOLD;
            return 0L;
        }
        said = FINE;
        return answer.count;
    }

    public int cost(int i) {
        Answer answer = latest.at(i);
        if (answer == null) {
            return refused(NONE_SUCH);
        }
        said = FINE;
        return answer.cost;
    }

    public long trust(int i) {
        Answer answer = latest.at(i);
        if (answer == null) {
            return refused(NONE_SUCH);
        }
        said = FINE;
        return answer.trust;
    }

    public int stays(int i) {
        return standsWith(i, ~facts.dropped);
    }

    public int without(long facts) {
        int gone = 0;
        for (int i = 0; i < latest.n; i++) {
            if (!latest.rows[i].stands(facts)) {
                gone++;
            }
        }
        return gone;
    }

    public int with(int i, long facts) {
        return standsWith(i, facts);
    }

    public long chance(int i) {
        Answer answer = weighable(i);
        if (answer == null) {
            return NONE;
        }
        return chances.chanceOf(answer, facts, NONE, 0);
    }

    public long share(int i, int fact) {
        if (latest.at(i) == null || !facts.isFact(fact)) {
            return refused(NONE_SUCH);
        }
        Answer answer = weighable(i);
        if (answer == null) {
            return NONE;
        }
        if (!has(answer.inAnyWay(), fact)) {
            return 0L;
        }
        return chances.chanceOf(answer, facts, fact, 8) - chances.chanceOf(answer, facts, fact, 0);
    }

    public long least(int i) {
        Answer answer = weighable(i);
        return answer == null ? NONE : hits.leastOf(answer);
    }

    public int blame(int i, int fact) {
        if (latest.at(i) == null || !facts.isFact(fact)) {
            return refused(NONE_SUCH);
        }
        Answer answer = weighable(i);
        if (answer == null) {
            return NONE;
        }
        if (!has(answer.inAnyWay(), fact)) {
            return refused(NOT_TOLD);
        }
        return hits.blameOf(answer, fact);
    }

    // ---- the shelf

    public int lay(int k, int sort, int n) {
        if (!isShelfPlace(k)) {
            return refused(NONE_SUCH);
        }
        if (sort < NOTHING || sort > SOME_WAYS) {
            return refused(A_NUMBER);
        }
        Thing thing = thingOf(sort, n);
        if (thing == null && sort != NOTHING) {
            return refused(NONE_SUCH);
        }
        return laid(k, thing);
    }

    public int lies(int k) {
        if (!isShelfPlace(k)) {
            return refused(NONE_SUCH);
        }
        said = FINE;
        return sortAt(k);
    }

    public long taken(int k, int sort, int i) {
        if (!isShelfPlace(k)) {
            return refused(NONE_SUCH);
        }
        if (sort < A_FACT || sort > SOME_WAYS) {
            return refused(A_NUMBER);
        }
        Thing thing = shelf[k];
        if (thing == null || thing.sort != sort) {
            return refused(ANOTHER_THING);
        }
        int at = sort == A_ROW || sort == SOME_WAYS ? i : 0;
        if (at < 0 || at >= thing.held.length) {
            return refused(NONE_SUCH);
        }
        said = FINE;
        return thing.held[at];
    }

    public int copy(int j, int i, int k, int m, int n) {
        if (!isShelfPlace(j) || !isShelfPlace(k)) {
            return refused(NONE_SUCH);
        }
        Thing from = shelf[j];
        Thing to = shelf[k];
        if (from == null || to == null || from.sort != A_ROW || to.sort != A_ROW) {
            return refused(ANOTHER_THING);
        }
        if (!hasSoMany(from, i, n) || !hasSoMany(to, m, n)) {
            return refused(A_NUMBER);
        }
        long[] over = to.held.clone();
        System.arraycopy(from.held, i, over, m, n);
        return laid(k, new Thing(A_ROW, over));
    }

    public int undo() {
        Act act = acts.takeLatest();
        if (act == null) {
            return 0;
        }
        takeBack(act);
        return 1;
    }

    public int size(int what) {
        switch (what) {
            case 0:
                return facts.tables;
            case 1:
                return facts.known;
            case 2:
                return questionCount;
            case 3:
                return latest.n;
            case 4:
                return acts.kept;
            default:
                return NONE;
        }
    }

    public int status() {
        return said;
    }

    // ---- what the calls above share

    private int refused(int why) {
        said = why;
        return NONE;
    }

    private void accepted(Act act) {
        said = FINE;
        acts.keep(act);
    }

    private boolean isQuestion(int question) {
        return question >= 0 && question < questionCount;
    }

    private boolean hasPlace(int question, int place) {
        return place >= 0 && place < questions[question].places;
    }

    private boolean isShelfPlace(int k) {
        return k >= 0 && k < SHELF_PLACES;
    }

    private Question oneQuestion(int sort, int question, int places) {
        return new Question(sort, places, question, NONE, questions[question].closed);
    }

    private Question twoQuestions(int sort, int one, int other, int places) {
        boolean closed = questions[one].closed || questions[other].closed;
        return new Question(sort, places, one, other, closed);
    }

    private int ofAsManyPlaces(int sort, int one, int other) {
        if (!isQuestion(one) || !isQuestion(other)) {
            return refused(NONE_SUCH);
        }
        if (questions[one].places != questions[other].places) {
            return refused(OTHER_PLACES);
        }
        return asked(twoQuestions(sort, one, other, questions[one].places));
    }

    private int asked(Question made) {
        if (questionCount >= MOST_QUESTIONS) {
            return refused(NO_ROOM);
        }
        accepted(new Act(ACT_QUESTION, 0, 0, 0L, null));
        questions[questionCount] = made;
        questionCount++;
        return questionCount - 1;
    }

    private int standsWith(int i, long there) {
        Answer answer = latest.at(i);
        if (answer == null) {
            return refused(NONE_SUCH);
        }
        said = FINE;
        return answer.stands(there) ? 1 : 0;
    }

    /** The answer, if its facts are few enough to be weighed; null, with the status told, if not. */
    private Answer weighable(int i) {
        Answer answer = latest.at(i);
        if (answer == null) {
            said = NONE_SUCH;
            return null;
        }
        if (Long.bitCount(answer.inAnyWay()) > WEIGHED_FACTS) {
            said = NOT_TOLD;
            return null;
        }
        said = FINE;
        return answer;
    }

    private static boolean has(long set, int fact) {
        return (set >>> fact & 1L) != 0;
    }

    private int sortAt(int k) {
        Thing thing = shelf[k];
        return thing == null ? NOTHING : thing.sort;
    }

    /** A thing of its own, so that neither a later ask() nor copy() into another place changes it. */
    private Thing thingOf(int sort, int n) {
        if (sort == A_FACT || sort == A_QUESTION) {
            boolean there = sort == A_FACT ? facts.isFact(n) : isQuestion(n);
            return there ? new Thing(sort, new long[] {n}) : null;
        }
        Answer answer = latest.at(n);
        if (sort == NOTHING || answer == null) {
            return null;
        }
        return new Thing(sort, sort == A_ROW ? answer.rowOf(latest.places) : Arrays.copyOf(answer.ways, answer.wayCount));
    }

    private int laid(int k, Thing thing) {
        accepted(new Act(ACT_SHELF, k, 0, 0L, shelf[k]));
        shelf[k] = thing;
        return 1;
    }

    private static boolean hasSoMany(Thing row, int from, int n) {
        return from >= 0 && n >= 0 && n <= row.held.length && from <= row.held.length - n;
    }

    private void takeBack(Act act) {
        switch (act.sort) {
            case ACT_TABLE:
                facts.tables--;
                latest.clear(0);
                break;
            case ACT_FACT:
                facts.known--;
                latest.clear(0);
                break;
            case ACT_DROP:
                facts.markDropped(act.at, act.before != 0);
                break;
            case ACT_PUT:
                facts.weigh(act.at, act.what, act.before);
                break;
            case ACT_QUESTION:
                questionCount--;
                break;
            default:
                shelf[act.at] = act.lay;
                break;
        }
    }

    /** The tables and their facts, with what they weigh. */
    private static final class Facts {
        final int[] places = new int[MOST_TABLES];
        int tables;
        final int[] home = new int[MOST_FACTS];
        final int[] cells = new int[MOST_FACTS * TABLE_PLACES];
        final long[] weights = new long[MOST_FACTS * WEIGHTS];
        long dropped;
        int known;

        boolean isTable(int table) {
            return table >= 0 && table < tables;
        }

        boolean isFact(int fact) {
            return fact >= 0 && fact < known;
        }

        int newTable(int many) {
            places[tables] = many;
            tables++;
            return tables - 1;
        }

        int newFact(int table, int a, int b, int c, int d) {
            int made = known;
            known++;
            home[made] = table;
            int at = made * TABLE_PLACES;
            cells[at] = a;
            cells[at + 1] = b;
            cells[at + 2] = c;
            cells[at + 3] = d;
            System.arraycopy(FIRST_WEIGHT, 0, weights, made * WEIGHTS, WEIGHTS);
            markDropped(made, false);
            return made;
        }

        int placesOf(int fact) {
            return places[home[fact]];
        }

        int cell(int fact, int place) {
            return cells[fact * TABLE_PLACES + place];
        }

        long weight(int fact, int what) {
            return weights[fact * WEIGHTS + what];
        }

        void weigh(int fact, int what, long v) {
            weights[fact * WEIGHTS + what] = v;
        }

        boolean isDropped(int fact) {
            return has(dropped, fact);
        }

        void markDropped(int fact, boolean away) {
            if (away) {
                dropped |= 1L << fact;
            } else {
                dropped &= ~(1L << fact);
            }
        }
    }

    /** A question: what it is of, and the places (or the value) that it was told. */
    private static final class Question {
        final int sort;
        final int places;
        final int one;
        final int other;
        final boolean closed;
        final int[] told = new int[4];

        Question(int sort, int places, int one, int other, boolean closed) {
            this.sort = sort;
            this.places = places;
            this.one = one;
            this.other = other;
            this.closed = closed;
        }

        void tell(int first, int second) {
            told[0] = first;
            told[1] = second;
        }

        void tellMore(int third, int fourth) {
            told[2] = third;
            told[3] = fourth;
        }
    }

    /** A row with its ways and its readings. */
    private static final class Answer {
        final int[] row = new int[MOST_PLACES];
        final long[] ways = new long[MOST_WAYS];
        int wayCount;
        long count;
        int cost;
        long trust;

        void takeRow(int[] from) {
            System.arraycopy(from, 0, row, 0, MOST_PLACES);
        }

        void takeRest(Answer from) {
            System.arraycopy(from.ways, 0, ways, 0, from.wayCount);
            wayCount = from.wayCount;
            count = from.count;
            cost = from.cost;
            trust = from.trust;
        }

        void takeFact(Facts facts, int fact) {
            for (int k = 0; k < TABLE_PLACES; k++) {
                row[k] = facts.cell(fact, k);
            }
            ways[0] = 1L << fact;
            wayCount = 1;
            count = facts.weight(fact, COUNT);
            cost = (int) facts.weight(fact, COST);
            trust = facts.weight(fact, TRUST);
        }

        long[] rowOf(int places) {
            long[] values = new long[places];
            for (int k = 0; k < places; k++) {
                values[k] = row[k];
            }
            return values;
        }

        boolean stands(long there) {
            for (int k = 0; k < wayCount; k++) {
                if ((ways[k] & ~there) == 0) {
                    return true;
                }
            }
            return false;
        }

        long inEveryWay() {
            long every = ~0L;
            for (int k = 0; k < wayCount; k++) {
                every &= ways[k];
            }
            return every;
        }

        long inAnyWay() {
            long any = 0L;
            for (int k = 0; k < wayCount; k++) {
                any |= ways[k];
            }
            return any;
        }

        boolean hasWaysOf(Answer other) {
            if (wayCount != other.wayCount) {
                return false;
            }
            for (int k = 0; k < wayCount; k++) {
                if (ways[k] != other.ways[k]) {
                    return false;
                }
            }
            return true;
        }
    }

    /** Answers of one width; their slots are made with them, and used again: no call makes any. */
    private static final class Answers {
        final Answer[] rows;
        int n;
        int places;

        Answers(int room) {
            rows = new Answer[room];
            for (int i = 0; i < room; i++) {
                rows[i] = new Answer();
            }
        }

        void clear(int width) {
            n = 0;
            places = width;
        }

        Answer at(int i) {
            return i >= 0 && i < n ? rows[i] : null;
        }

        /** One more slot at the end; null if there is no room. */
        Answer grow() {
            if (n >= rows.length) {
                return null;
            }
            n++;
            return rows[n - 1];
        }

        boolean add(Answer from) {
            Answer to = grow();
            if (to == null) {
                return false;
            }
            to.takeRow(from.row);
            to.takeRest(from);
            return true;
        }

        void takeAll(Answers from) {
            clear(from.places);
            for (int i = 0; i < from.n; i++) {
                add(from.rows[i]);
            }
        }

        /** Sees to it that the row stands in its order; false if there is no room for it. */
        boolean insert(int[] row) {
            int at = notBefore(row);
            if (at < n && compare(rows[at].row, row) == 0) {
                return true;
            }
            Answer made = grow();
            if (made == null) {
                return false;
            }
            for (int i = n - 1; i > at; i--) {
                rows[i] = rows[i - 1];
            }
            rows[at] = made;
            made.takeRow(row);
            return true;
        }

        /** Which one is this row; NONE if there is none. */
        int spot(int[] row) {
            int at = notBefore(row);
            return at < n && compare(rows[at].row, row) == 0 ? at : NONE;
        }

        /** The first one that does not come before the row, by halves. */
        private int notBefore(int[] row) {
            int from = 0;
            int to = n;
            while (from < to) {
                int middle = (from + to) / 2;
                if (compare(rows[middle].row, row) < 0) {
                    from = middle + 1;
                } else {
                    to = middle;
                }
            }
            return from;
        }

        int compare(int[] one, int[] other) {
            for (int k = 0; k < places; k++) {
                if (one[k] != other[k]) {
                    return one[k] < other[k] ? -1 : 1;
                }
            }
            return 0;
        }

        boolean sameWays(Answers other) {
            if (n != other.n) {
                return false;
            }
            for (int i = 0; i < n; i++) {
                if (!rows[i].hasWaysOf(other.rows[i])) {
                    return false;
                }
            }
            return true;
        }
    }

    /** All that comes to one row: the least ones of its ways, and its readings. */
    private static final class Gathered {
        final long[] ways = new long[MOST_GATHERED];
        int n;
        long count;
        int cost;
        long trust;

        void clear() {
            n = 0;
            count = 0L;
            cost = MOST_COST;
            trust = 0L;
        }

        void addWay(long way) {
            int kept = 0;
            for (int k = 0; k < n; k++) {
                if ((ways[k] & ~way) == 0) {
                    // None has been left out before this: what holds the new one would hold this one too.
                    return;
                }
                if ((way & ~ways[k]) != 0) {
                    ways[kept] = ways[k];
                    kept++;
                }
            }
            n = kept;
            if (n < MOST_GATHERED) {
                ways[n] = way;
                n++;
            }
        }

        void addWays(Answer from) {
            for (int k = 0; k < from.wayCount; k++) {
                addWay(from.ways[k]);
            }
        }

        void addUnions(Answer one, Answer other) {
            for (int k = 0; k < one.wayCount; k++) {
                for (int m = 0; m < other.wayCount; m++) {
                    addWay(one.ways[k] | other.ways[m]);
                }
            }
        }

        void addReadings(Answer from) {
            count += from.count;
            cost = Math.min(cost, from.cost);
            trust = Math.max(trust, from.trust);
        }

        /** Hands the ways over in order; false if they are too many. */
        boolean giveWays(Answer to) {
            if (n > MOST_WAYS) {
                return false;
            }
            for (int k = 0; k < n; k++) {
                int at = k;
                while (at > 0 && to.ways[at - 1] > ways[k]) {
                    to.ways[at] = to.ways[at - 1];
                    at--;
                }
                to.ways[at] = ways[k];
            }
            to.wayCount = n;
            return true;
        }

        boolean giveAll(Answer to) {
            to.count = count;
            to.cost = cost;
            to.trust = trust;
            return giveWays(to);
        }
    }

    /** Works out the answers of a question, each question within it once. */
    private static final class Asker {
        final Facts facts;
        final Question[] questions;
        /** A room for each question, as all forty may be within the asked one. */
        final Answers[] worked = new Answers[MOST_QUESTIONS];
        final Gathered gathered = new Gathered();
        final Answers raw = new Answers(MOST_RAW);
        final Answers round = new Answers(MOST_ANSWERS);
        /** For each of the raw ones the answer that it comes to. */
        final int[] goal = new int[MOST_RAW];
        final int[] row = new int[MOST_PLACES];

        Asker(Facts facts, Question[] questions) {
            this.facts = facts;
            this.questions = questions;
            for (int k = 0; k < MOST_QUESTIONS; k++) {
                worked[k] = new Answers(MOST_ANSWERS);
            }
        }

        /** The answers, or null if they are MANY. */
        Answers answersTo(int question) {
            long wanted = allWithin(question);
            for (int k = 0; k <= question; k++) {
                if (has(wanted, k) && !workOut(k)) {
                    return null;
                }
            }
            return worked[question];
        }

        /** The question and those within it, as bits; each is of earlier ones alone. */
        private long allWithin(int question) {
            long wanted = 1L << question;
            for (int k = question; k >= 0; k--) {
                Question q = questions[k];
                if (!has(wanted, k) || q.sort == BASE) {
                    continue;
                }
                wanted |= 1L << q.one;
                if (q.other != NONE) {
                    wanted |= 1L << q.other;
                }
            }
            return wanted;
        }

        private boolean workOut(int k) {
            Question q = questions[k];
            Answers out = worked[k];
            out.clear(q.places);
            raw.clear(q.places);
            if (q.sort == BASE) {
                return workBase(q.one, out);
            }
            Answers one = worked[q.one];
            Answers other = q.other == NONE ? one : worked[q.other];
            switch (q.sort) {
                case CUT:
                    return workCut(q, one, out);
                case PAIR:
                    return workPair(q, one, other, out);
                case EITHER:
                    return workEither(one, other, out);
                case CLOSE:
                    return workClose(one, out);
                case MOST:
                    return workMost(one, other, out);
                default:
                    return workFilter(q, one, out);
            }
        }

        private boolean workBase(int table, Answers out) {
            for (int f = 0; f < facts.known; f++) {
                if (facts.home[f] != table) {
                    continue;
                }
                Answer slot = raw.grow();
                if (slot == null) {
                    return false;
                }
                slot.takeFact(facts, f);
            }
            return melt(out);
        }

        private boolean workFilter(Question q, Answers one, Answers out) {
            for (int i = 0; i < one.n; i++) {
                int[] values = one.rows[i].row;
                int due = q.sort == PICK ? q.told[1] : values[q.told[1]];
                if (values[q.told[0]] == due && !out.add(one.rows[i])) {
                    return false;
                }
            }
            return true;
        }

        private boolean workCut(Question q, Answers one, Answers out) {
            for (int i = 0; i < one.n; i++) {
                Answer slot = raw.grow();
                if (slot == null) {
                    return false;
                }
                for (int k = 0; k < q.places; k++) {
                    slot.row[k] = one.rows[i].row[q.told[k]];
                }
                slot.takeRest(one.rows[i]);
            }
            return melt(out);
        }

        private boolean workEither(Answers one, Answers other, Answers out) {
            for (int i = 0; i < one.n; i++) {
                raw.add(one.rows[i]);
            }
            for (int i = 0; i < other.n; i++) {
                raw.add(other.rows[i]);
            }
            return melt(out);
        }

        /** Makes one answer of all the raw ones with like rows. */
        private boolean melt(Answers out) {
            for (int i = 0; i < raw.n; i++) {
                if (!out.insert(raw.rows[i].row)) {
                    return false;
                }
            }
            for (int i = 0; i < raw.n; i++) {
                goal[i] = out.spot(raw.rows[i].row);
            }
            for (int t = 0; t < out.n; t++) {
                gathered.clear();
                for (int i = 0; i < raw.n; i++) {
                    if (goal[i] == t) {
                        gathered.addWays(raw.rows[i]);
                        gathered.addReadings(raw.rows[i]);
                    }
                }
                if (!gathered.giveAll(out.rows[t])) {
                    return false;
                }
            }
            return true;
        }

        /** Rows of the one in their order, and those of the other behind each, are in order by themselves. */
        private boolean workPair(Question q, Answers one, Answers other, Answers out) {
            for (int i = 0; i < one.n; i++) {
                for (int j = 0; j < other.n; j++) {
                    if (one.rows[i].row[q.told[0]] != other.rows[j].row[q.told[1]]) {
                        continue;
                    }
                    Answer slot = out.grow();
                    if (slot == null || !join(one.rows[i], one.places, other.rows[j], other.places, slot)) {
                        return false;
                    }
                }
            }
            return true;
        }

        private boolean join(Answer one, int width, Answer other, int more, Answer slot) {
            System.arraycopy(one.row, 0, slot.row, 0, width);
            System.arraycopy(other.row, 0, slot.row, width, more);
            slot.count = one.count * other.count;
            slot.cost = costOfBoth(one.cost, other.cost);
            slot.trust = Math.min(one.trust, other.trust);
            gathered.clear();
            gathered.addUnions(one, other);
            return gathered.giveWays(slot);
        }

        /** Neither is above a thousand millions, so the sum is still an int. */
        private static int costOfBoth(int one, int other) {
            return Math.min(one + other, MOST_COST);
        }

        private boolean workMost(Answers one, Answers other, Answers out) {
            for (int i = 0; i < one.n; i++) {
                Answer against = other.at(other.spot(one.rows[i].row));
                boolean takenAway = against != null && against.stands(~facts.dropped);
                if (!takenAway && !out.add(one.rows[i])) {
                    return false;
                }
            }
            return true;
        }

        private boolean workClose(Answers steps, Answers out) {
            out.takeAll(steps);
            for (int k = 0; k < MOST_ROUNDS; k++) {
                if (!reach(steps, out) || !gatherRound(steps, out)) {
                    return false;
                }
                if (round.sameWays(out)) {
                    break;
                }
                out.takeAll(round);
            }
            weighChains(steps, out);
            return true;
        }

        /** The rows of this round: those of the chains so far, and of each with one step more; false if MANY. */
        private boolean reach(Answers steps, Answers chains) {
            round.clear(2);
            for (int i = 0; i < chains.n; i++) {
                int[] chain = chains.rows[i].row;
                if (!round.insert(chain)) {
                    return false;
                }
                for (int j = 0; j < steps.n; j++) {
                    int[] step = steps.rows[j].row;
                    row[0] = chain[0];
                    row[1] = step[1];
                    if (step[0] == chain[1] && !round.insert(row)) {
                        return false;
                    }
                }
            }
            return true;
        }

        /** The ways of this round's rows; false if MANY. */
        private boolean gatherRound(Answers steps, Answers chains) {
            for (int t = 0; t < round.n; t++) {
                gatherChains(steps, chains, round.rows[t].row);
                if (!gathered.giveWays(round.rows[t])) {
                    return false;
                }
            }
            return true;
        }

        private void gatherChains(Answers steps, Answers chains, int[] to) {
            gathered.clear();
            for (int i = 0; i < chains.n; i++) {
                Answer chain = chains.rows[i];
                if (chain.row[0] != to[0]) {
                    continue;
                }
                if (chain.row[1] == to[1]) {
                    gathered.addWays(chain);
                }
                Answer step = stepOf(steps, chain.row[1], to[1]);
                if (step != null) {
                    gathered.addUnions(chain, step);
                }
            }
        }

        private static Answer stepOf(Answers steps, int from, int to) {
            for (int j = 0; j < steps.n; j++) {
                int[] step = steps.rows[j].row;
                if (step[0] == from && step[1] == to) {
                    return steps.rows[j];
                }
            }
            return null;
        }

        /** The readings can go on changing when the ways don't any more, so they have rounds of their own. */
        private void weighChains(Answers steps, Answers out) {
            for (int t = 0; t < out.n; t++) {
                Answer chain = out.rows[t];
                Answer step = stepOf(steps, chain.row[0], chain.row[1]);
                chain.count = 0L;
                chain.cost = step == null ? MOST_COST : step.cost;
                chain.trust = step == null ? 0L : step.trust;
            }
            boolean changed = true;
            for (int k = 0; k < MOST_ROUNDS && changed; k++) {
                changed = false;
                for (int t = 0; t < out.n; t++) {
                    changed |= betterChain(steps, out, out.rows[t]);
                }
            }
        }

        private boolean betterChain(Answers steps, Answers chains, Answer to) {
            int cost = to.cost;
            long trust = to.trust;
            for (int i = 0; i < chains.n; i++) {
                Answer chain = chains.rows[i];
                Answer step = chain.row[0] == to.row[0] ? stepOf(steps, chain.row[1], to.row[1]) : null;
                if (step != null) {
                    cost = Math.min(cost, costOfBoth(chain.cost, step.cost));
                    trust = Math.max(trust, Math.min(chain.trust, step.trust));
                }
            }
            boolean better = cost != to.cost || trust != to.trust;
            to.cost = cost;
            to.trust = trust;
            return better;
        }
    }

    /** Weighs the chance that one way at least of an answer is whole. */
    private static final class Chances {
        final int[] eighths = new int[WEIGHED_FACTS];
        /** For each fact of the answer the ways that hold it, as bits. */
        final int[] holders = new int[WEIGHED_FACTS];
        /** Behind so many facts: the ways that hold none of the further ones. */
        final int[] ended = new int[WEIGHED_FACTS + 1];
        int n;

        /** In parts of 8 to the 16th; one fact may be there by other eighths than its own. */
        long chanceOf(Answer answer, Facts facts, int changed, int otherEighths) {
            long any = answer.inAnyWay();
            n = 0;
            for (int f = 0; f < MOST_FACTS && n < WEIGHED_FACTS; f++) {
                if (has(any, f)) {
                    eighths[n] = f == changed ? otherEighths : (int) facts.weight(f, CHANCE);
                    holders[n] = holdersOf(answer, f);
                    n++;
                }
            }
            int open = 0;
            for (int f = n; f >= 0; f--) {
                open |= f < n ? holders[f] : 0;
                ended[f] = ~open;
            }
            return partsFrom(0, (1 << answer.wayCount) - 1);
        }

        private static int holdersOf(Answer answer, int fact) {
            int ways = 0;
            for (int k = 0; k < answer.wayCount; k++) {
                if (has(answer.ways[k], fact)) {
                    ways |= 1 << k;
                }
            }
            return ways;
        }

        /** With the facts before f settled, and the ways that are still without a missing fact. */
        private long partsFrom(int f, int alive) {
            if (alive == 0 || f > n) {
                return 0L;
            }
            if ((alive & ended[f]) != 0 || f == n) {
                return 1L << 3 * (WEIGHED_FACTS - f);
            }
            if ((alive & holders[f]) == 0) {
                return 8L * partsFrom(f + 1, alive);
            }
            long parts = 0L;
            if (eighths[f] > 0) {
                parts += eighths[f] * partsFrom(f + 1, alive);
            }
            if (eighths[f] < 8) {
                parts += (8 - eighths[f]) * partsFrom(f + 1, alive & ~holders[f]);
            }
            return parts;
        }
    }

    /** Seeks the smallest set that meets each of some sets. */
    private static final class Hits {
        final long[] sets = new long[MOST_WAYS];
        int n;
        long best;

        long leastOf(Answer answer) {
            n = answer.wayCount;
            System.arraycopy(answer.ways, 0, sets, 0, n);
            return smallest();
        }

        /** One way with the fact must be left whole, and of each way without it a fact must go. */
        int blameOf(Answer answer, int fact) {
            int fewest = MOST_FACTS;
            for (int k = 0; k < answer.wayCount; k++) {
                if (has(answer.ways[k], fact)) {
                    fewest = Math.min(fewest, othersToGo(answer, fact, answer.ways[k]));
                }
            }
            return fewest;
        }

        private int othersToGo(Answer answer, int fact, long whole) {
            n = 0;
            for (int k = 0; k < answer.wayCount; k++) {
                if (!has(answer.ways[k], fact)) {
                    sets[n] = answer.ways[k] & ~whole;
                    n++;
                }
            }
            return Long.bitCount(smallest());
        }

        /** Tried by size, so that the first size with such a set is the smallest; of these the least number. */
        private long smallest() {
            best = NONE;
            for (int size = 0; size <= n && best == NONE; size++) {
                seek(0L, size);
            }
            return best;
        }

        private void seek(long chosen, int left) {
            long missed = firstMissed(chosen);
            if (missed == 0) {
                best = best == NONE ? chosen : Math.min(best, chosen);
                return;
            }
            if (left <= 0) {
                return;
            }
            int choices = Long.bitCount(missed);
            for (int k = 0; k < choices; k++) {
                long lowest = missed & -missed;
                missed &= ~lowest;
                seek(chosen | lowest, left - 1);
            }
        }

        private long firstMissed(long chosen) {
            for (int k = 0; k < n; k++) {
                if ((sets[k] & chosen) == 0) {
                    return sets[k];
                }
            }
            return 0L;
        }
    }

    /** What lies on the shelf: a number, or the values of a row, or ways. */
    private static final class Thing {
        final int sort;
        final long[] held;

        Thing(int sort, long[] held) {
            this.sort = sort;
            this.held = held;
        }
    }

    /** An act that was accepted, with what was there before it. */
    private static final class Act {
        final int sort;
        final int at;
        final int what;
        final long before;
        final Thing lay;

        Act(int sort, int at, int what, long before, Thing lay) {
            this.sort = sort;
            this.at = at;
            this.what = what;
            this.before = before;
            this.lay = lay;
        }
    }

    /** The latest hundred acts, in a ring. */
    private static final class Acts {
        final Act[] ring = new Act[MOST_ACTS];
        int next;
        int kept;

        void keep(Act act) {
            ring[next] = act;
            next = next + 1 < MOST_ACTS ? next + 1 : 0;
            kept = Math.min(kept + 1, MOST_ACTS);
        }

        /** The latest act, which is kept no longer; null if there is none. */
        Act takeLatest() {
            if (kept <= 0) {
                return null;
            }
            kept--;
            next = next > 0 ? next - 1 : MOST_ACTS - 1;
            return ring[next];
        }
    }
}
