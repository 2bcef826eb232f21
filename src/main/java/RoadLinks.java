/**
 * Posts with one-way roads to targets, families of sets of posts, and what both make of
 * sets of posts: ranks, bases, circuits, flats, cuts, partners, texts. Sets are told as bits.
 */
public final class RoadLinks {
    public static final int NONE = -1, BAD = -2, STATE = -3, FULL = -4, NOT = -5, MISSING = -11, PLACE = -13, BELOW = -14;

    private static final int MOST_POSTS = 8;
    private static final int MOST_SETS = 8;
    private static final int MOST_SUBSETS = 256;
    private static final int MOST_WEIGHT = 99;
    private static final int SIDES = 4;
    private static final int ROWS = 3;
    private static final int MOST_PLACES = 40;
    private static final int NO_ROW = -1;
    private static final long LEAST_LONG = -9223372036854775808L;
    private static final int MOST_BYTES = 120;
    private static final int LEAST_BYTE = 32;
    private static final int GREATEST_BYTE = 126;
    private static final int MOST_SPELLED = 800;

    private static final int BASES = 0;
    private static final int CIRCUITS = 1;
    private static final int FLATS = 2;

    private static final int NO_FAULT = -1;
    private static final int NO_WORD = 0;
    private static final int WORD_POSTS = 1;
    private static final int WORD_ROAD = 2;
    private static final int WORD_BLOCK = 3;
    private static final int WORD_TO = 4;
    private static final int WORD_SET = 5;
    private static final int WORD_WEIGH = 6;

    /** For posts 0 to 5: the places in a long whose own number, as bits, lacks the post. */
    private static final long[] LACKING = {
        0x5555555555555555L, 0x3333333333333333L, 0x0F0F0F0F0F0F0F0FL,
        0x00FF00FF00FF00FFL, 0x0000FFFF0000FFFFL, 0x00000000FFFFFFFFL
    };

    private final Table table = new Table();
    private final Table kept = new Table();
    private boolean isKept = false;
    private final Ranks ranks = new Ranks();
    private final Choice choice = new Choice();
    private final int[][] rows = new int[ROWS][MOST_PLACES];
    private final int[] sizes = {NO_ROW, NO_ROW, NO_ROW};
    private final Tape tape = new Tape();
    private final Speller speller = new Speller();

    public RoadLinks() {
    }

    // ---- posts, roads, sets

    public int posts(int n) {
        if (n < 1 || n > MOST_POSTS) return BAD;
        int was = table.posts;
        table.begin(n);
        return was;
    }

    public int road(int i, int j, int is) {
        if (!table.isPost(i) || !table.isPost(j)) return NONE;
        if (is != 0 && is != 1) return BAD;
        if (i == j) return STATE;
        int was = table.roads[i] >> j & 1;
        table.lay(i, j, is == 1);
        return was;
    }

    public int isRoad(int i, int j) {
        if (!table.isPost(i) || !table.isPost(j)) return NONE;
        return table.roads[i] >> j & 1;
    }

    public int targets(int set) {
        if (!table.isSet(set)) return BAD;
        int was = table.targets;
        table.aim(set);
        return was;
    }

    public int weigh(int i, int v) {
        if (!table.isPost(i)) return NONE;
        if (v < 0 || v > MOST_WEIGHT) return BAD;
        int was = table.weights[i];
        table.load(i, v);
        return was;
    }

    public int add(int set) {
        if (!table.isSet(set)) return BAD;
        if (table.sets >= MOST_SETS) return FULL;
        table.join(set);
        return table.sets - 1;
    }

    public int change(int k, int set) {
        if (!table.isNumber(k)) return NONE;
        if (!table.isSet(set)) return BAD;
        int was = table.family[k];
        table.replace(k, set);
        return was;
    }

    public int drop(int k) {
        if (!table.isNumber(k)) return NONE;
        table.remove(k);
        return table.sets;
    }

    public int set(int k) {
        if (!table.isNumber(k)) return NONE;
        return table.family[k];
    }

    // ---- ranks

    public int rank(int w, int x) {
        if (!isSide(w)) return NONE;
        if (!table.isSet(x)) return BAD;
        return freshRanks().of(w, x);
    }

    public int free(int w, int x) {
        if (!isSide(w)) return NONE;
        if (!table.isSet(x)) return BAD;
        return freshRanks().isFree(w, x) ? 1 : 0;
    }

    public int base(int w, int k) {
        return listed(BASES, w, k);
    }

    public int circuit(int w, int k) {
        return listed(CIRCUITS, w, k);
    }

    public int flat(int w, int k) {
        return listed(FLATS, w, k);
    }

    public int shut(int w, int x) {
        if (!isSide(w)) return NONE;
        if (!table.isSet(x)) return BAD;
        return freshRanks().shutOf(w, x);
    }

    public int loops(int w, int what) {
        if (!isSide(w) || !isEither(what)) return NONE;
        Ranks now = freshRanks();
        return what == 0 ? now.shutOf(w, 0) : now.boundOf(w);
    }

    public int round(int w, int b, int e) {
        if (!isSide(w) || !table.isPost(e)) return NONE;
        if (!table.isSet(b)) return BAD;
        Ranks now = freshRanks();
        if (!now.isBase(w, b) || has(b, e)) return NOT;
        return now.roundOf(w, b | 1 << e);
    }

    public int swap(int w, int b, int c, int e) {
        if (!isSide(w) || !table.isPost(e)) return NONE;
        if (!table.isSet(b) || !table.isSet(c)) return BAD;
        Ranks now = freshRanks();
        if (!now.isBase(w, b) || !now.isBase(w, c)) return NOT;
        if (!has(b, e) || has(c, e)) return NOT;
        return now.swapOf(w, b & ~(1 << e), c & ~b);
    }

    public int steps(int w) {
        if (!isSide(w)) return NONE;
        Ranks now = freshRanks();
        int all = table.all();
        int steps = 0;
        for (int x = 0; x <= all; x++) {
            if (now.isBase(w, x)) steps += now.stepsUp(w, x);
        }
        return steps;
    }

    public int less(int w, int d, int k, int x) {
        if (!isSide(w)) return NONE;
        if (!table.isSet(d) || !table.isSet(k) || !table.isSet(x)) return BAD;
        if ((d & k) != 0 || (d & x) != 0 || (k & x) != 0) return BAD;
        Ranks now = freshRanks();
        return now.of(w, x | k) - now.of(w, k);
    }

    public int heaviest(int w, int what) {
        if (!isSide(w) || !isEither(what)) return NONE;
        Ranks now = freshRanks();
        int all = table.all();
        int best = 0;
        int most = -1;
        for (int x = 0; x <= all; x++) {
            if (now.isBase(w, x) && table.weightOf(x) > most) {
                best = x;
                most = table.weightOf(x);
            }
        }
        return what == 0 ? best : most;
    }

    public int alike(int w, int v) {
        if (!isSide(w) || !isSide(v)) return NONE;
        Ranks now = freshRanks();
        int all = table.all();
        for (int x = 0; x <= all; x++) {
            if (now.of(w, x) != now.of(v, x)) return x;
        }
        return NOT;
    }

    // ---- links, partners

    public int cut(int x) {
        if (!table.isSet(x)) return BAD;
        // By Menger a least cut has as many posts as there are ways that meet nowhere.
        int fewest = freshRanks().of(0, x);
        int all = table.all();
        for (int s = 0; s <= all; s++) {
            if (Integer.bitCount(s) == fewest && table.isCut(x, s)) return s;
        }
        return all;
    }

    public int reach(int x) {
        if (!table.isSet(x)) return BAD;
        return table.reached(x, 0);
    }

    public int partners(int x) {
        if (!table.isSet(x)) return BAD;
        choice.begin();
        for (int e = 0; e < table.posts; e++) {
            if (has(x, e)) choice.ask(table.setsWith(e));
        }
        if (!choice.isMade(table.sets)) return NOT;
        int digits = 0;
        for (int i = 0; i < choice.items; i++) digits = digits * 10 + choice.chosen[i] + 1;
        return digits;
    }

    public int turned() {
        table.turn();
        return table.sets;
    }

    public int strict() {
        choice.begin();
        for (int k = 0; k < table.sets; k++) choice.ask(table.family[k]);
        if (!choice.isMade(table.posts)) return STATE;
        table.straighten(choice.chosen);
        return table.countRoads();
    }

    // ---- small families

    public int spare(int k) {
        if (!table.isNumber(k)) return NONE;
        return likewise(k, table.family[k]);
    }

    public int room(int k) {
        if (!table.isNumber(k)) return NONE;
        return likewise(k, table.all() & ~table.family[k]);
    }

    public int idle() {
        Ranks now = freshRanks();
        int idle = 0;
        for (int k = 0; k < table.sets; k++) {
            // A set without posts matches as much as one that is gone.
            if (now.stays(table, k, 0)) idle |= 1 << k;
        }
        return idle;
    }

    public int small() {
        Ranks now = freshRanks();
        int out = 0;
        for (int k = 0; k < table.sets; k++) {
            for (int e = 0; e < table.posts; e++) {
                int without = table.family[k] & ~(1 << e);
                if (has(table.family[k], e) && now.stays(table, k, without)) {
                    table.replace(k, without);
                    out++;
                }
            }
        }
        table.removeEmpty();
        return out;
    }

    // ---- rows

    public int row(int r, int n) {
        if (!isRow(r)) return NONE;
        if (n > MOST_PLACES) return BAD;
        if (n < 0) return BELOW;
        sizes[r] = n;
        for (int i = 0; i < n; i++) rows[r][i] = 0;
        return 1;
    }

    public int lose(int r) {
        if (!isRow(r)) return NONE;
        if (!isThere(r)) return MISSING;
        int held = sizes[r];
        sizes[r] = NO_ROW;
        return held;
    }

    public int put(int r, int i, int v) {
        if (!isRow(r)) return NONE;
        if (!isThere(r)) return MISSING;
        if (i < 0 || i >= sizes[r]) return PLACE;
        rows[r][i] = v;
        return 1;
    }

    public long get(int r, int i) {
        if (!isRow(r) || i < 0 || i >= sizes[r]) return LEAST_LONG;
        return rows[r][i];
    }

    public int copy(int r, int i, int other, int j, int n) {
        if (!isRow(r) || !isRow(other)) return NONE;
        if (!isThere(r) || !isThere(other)) return MISSING;
        if (n < 0 || i < 0 || j < 0) return PLACE;
        if (n > sizes[r] - i || n > sizes[other] - j) return PLACE;
        System.arraycopy(rows[r], i, rows[other], j, n);
        return n;
    }

    public int film(int r, int w, int x, int n) {
        if (!isRow(r) || !isSide(w)) return NONE;
        if (!table.isSet(x) || n < 0 || n > MOST_PLACES) return BAD;
        Ranks now = freshRanks();
        int size = Math.min(n, table.all() - x + 1);
        for (int i = 0; i < size; i++) rows[r][i] = now.of(w, x + i);
        sizes[r] = size;
        return size;
    }

    public int judge(int r, int w, int x) {
        if (!isRow(r) || !isSide(w)) return NONE;
        if (!table.isSet(x)) return BAD;
        if (!isThere(r)) return MISSING;
        Ranks now = freshRanks();
        for (int i = 0; i < sizes[r]; i++) {
            if (!table.isSet(x + i) || rows[r][i] != now.of(w, x + i)) return i;
        }
        return 100 + sizes[r];
    }

    // ---- texts, the image

    public int feed(int letter) {
        if (letter < LEAST_BYTE || letter > GREATEST_BYTE) return BAD;
        if (tape.length >= MOST_BYTES) return FULL;
        tape.bytes[tape.length] = (char) letter;
        tape.length++;
        return tape.length;
    }

    public int wipe() {
        int had = tape.length;
        tape.length = 0;
        return had;
    }

    public int read() {
        int fault = tape.findFault();
        int answer = fault == NO_FAULT ? doStatements() : -100 - fault;
        tape.length = 0;
        return answer;
    }

    public int spelled(int i) {
        speller.spell(table);
        if (i == -1) return speller.length;
        if (i < 0 || i >= speller.length) return NONE;
        return speller.text[i];
    }

    public int image() {
        kept.become(table);
        isKept = true;
        return table.posts;
    }

    public int undo() {
        if (!isKept) return STATE;
        table.become(kept);
        return table.posts;
    }

    public int count(int what) {
        switch (what) {
            case 0: return table.posts;
            case 1: return table.countRoads();
            case 2: return table.targets;
            case 3: return table.sets;
            case 4: return tape.length;
            case 5: return countRows();
            case 6: return table.weightOf(table.all());
            default: return NONE;
        }
    }

    // ---- what several calls use

    private static boolean has(int x, int e) {
        return (x >> e & 1) == 1;
    }

    private static boolean isSide(int w) {
        return w >= 0 && w < SIDES;
    }

    private static boolean isEither(int what) {
        return what == 0 || what == 1;
    }

    private static boolean isRow(int r) {
        return r >= 0 && r < ROWS;
    }

    private boolean isThere(int r) {
        return sizes[r] != NO_ROW;
    }

    private int countRows() {
        int there = 0;
        for (int r = 0; r < ROWS; r++) {
            if (isThere(r)) there++;
        }
        return there;
    }

    private Ranks freshRanks() {
        ranks.refresh(table);
        return ranks;
    }

    private int listed(int kind, int w, int k) {
        if (!isSide(w) || k < -1) return NONE;
        Ranks now = freshRanks();
        int all = table.all();
        int seen = 0;
        for (int x = 0; x <= all; x++) {
            if (!now.isOf(kind, w, x)) continue;
            if (seen == k) return x;
            seen++;
        }
        return k == -1 ? seen : NONE;
    }

    /** Of some posts those that alone could go over, out of set k or into it, and leave the bases. */
    private int likewise(int k, int some) {
        Ranks now = freshRanks();
        int set = table.family[k];
        int fit = 0;
        for (int e = 0; e < table.posts; e++) {
            if (has(some, e) && now.stays(table, k, set ^ 1 << e)) fit |= 1 << e;
        }
        return fit;
    }

    private int doStatements() {
        tape.rewind();
        int done = 0;
        boolean goesOn = true;
        for (int turn = 0; goesOn && turn <= tape.length; turn++) {
            tape.takeStatement();
            if (!isDone()) return -300 - done;
            done++;
            goesOn = tape.takeSemicolon();
        }
        return done;
    }

    private boolean isDone() {
        switch (tape.word) {
            case WORD_POSTS: return posts(tape.first) >= 0;
            case WORD_ROAD: return road(tape.first, tape.second, 1) >= 0;
            case WORD_BLOCK: return road(tape.first, tape.second, 0) >= 0;
            case WORD_TO: return table.isPost(tape.first) && targets(table.targets | 1 << tape.first) >= 0;
            case WORD_SET: return add(tape.told) >= 0;
            case WORD_WEIGH: return weigh(tape.first, tape.second) >= 0;
            default: return false;
        }
    }

    /** All that an image keeps. Each change is counted, so that what is made from it can be made anew. */
    private static final class Table {
        int posts = 1;
        int targets = 0;
        int sets = 0;
        int changes = 0;
        final int[] roads = new int[MOST_POSTS];
        final int[] weights = new int[MOST_POSTS];
        final int[] family = new int[MOST_SETS];

        int all() {
            return (1 << posts) - 1;
        }

        boolean isPost(int i) {
            return i >= 0 && i < posts;
        }

        boolean isSet(int x) {
            return x >= 0 && x <= all();
        }

        boolean isNumber(int k) {
            return k >= 0 && k < sets;
        }

        void begin(int n) {
            posts = n;
            targets = 0;
            sets = 0;
            for (int i = 0; i < MOST_POSTS; i++) {
                roads[i] = 0;
                weights[i] = 0;
            }
            changes++;
        }

        void lay(int i, int j, boolean is) {
            roads[i] = is ? roads[i] | 1 << j : roads[i] & ~(1 << j);
            changes++;
        }

        void aim(int set) {
            targets = set;
            changes++;
        }

        void load(int i, int v) {
            weights[i] = v;
            changes++;
        }

        void join(int set) {
            if (sets >= MOST_SETS) return;
            family[sets] = set;
            sets++;
            changes++;
        }

        void replace(int k, int set) {
            family[k] = set;
            changes++;
        }

        void remove(int k) {
            for (int j = k; j + 1 < sets; j++) family[j] = family[j + 1];
            sets--;
            changes++;
        }

        void removeEmpty() {
            int stay = 0;
            for (int k = 0; k < sets; k++) {
                if (family[k] == 0) continue;
                family[stay] = family[k];
                stay++;
            }
            sets = stay;
            changes++;
        }

        void become(Table other) {
            posts = other.posts;
            targets = other.targets;
            sets = other.sets;
            System.arraycopy(other.roads, 0, roads, 0, MOST_POSTS);
            System.arraycopy(other.weights, 0, weights, 0, MOST_POSTS);
            System.arraycopy(other.family, 0, family, 0, MOST_SETS);
            changes++;
        }

        int countRoads() {
            int count = 0;
            for (int i = 0; i < posts; i++) count += Integer.bitCount(roads[i]);
            return count;
        }

        int weightOf(int x) {
            int sum = 0;
            for (int i = 0; i < posts; i++) {
                if (has(x, i)) sum += weights[i];
            }
            return sum;
        }

        /** The posts to which ways lead from posts of x, none of which comes to a closed post. */
        int reached(int x, int closed) {
            int reached = x & ~closed;
            // A way has no post twice, so each turn but the last one takes in a post more.
            for (int turn = 0; turn < posts; turn++) {
                int next = reached;
                for (int i = 0; i < posts; i++) {
                    if (has(reached, i)) next |= roads[i] & ~closed;
                }
                if (next == reached) break;
                reached = next;
            }
            return reached;
        }

        boolean isCut(int x, int s) {
            return (reached(x, s) & targets) == 0;
        }

        int setsWith(int e) {
            int with = 0;
            for (int k = 0; k < sets; k++) {
                if (has(family[k], e)) with |= 1 << k;
            }
            return with;
        }

        void turn() {
            sets = 0;
            for (int v = 0; v < posts; v++) {
                if (!has(targets, v)) join(roads[v] | 1 << v);
            }
            changes++;
        }

        /** Roads from the post taken for each set to all others of that set; the rest are targets. */
        void straighten(int[] taken) {
            for (int i = 0; i < MOST_POSTS; i++) roads[i] = 0;
            targets = all();
            for (int k = 0; k < sets; k++) {
                int bit = 1 << taken[k];
                roads[taken[k]] = family[k] & ~bit;
                targets &= ~bit;
            }
            changes++;
        }
    }

    /** Which sets of posts can be matched to a family: a bit for each set of posts, 64 in a long. */
    private static final class Matched {
        private static final int LONGS = 4;
        private static final int POSTS_IN_LONG = 6;

        private final long[] bits = new long[LONGS];
        private final long[] before = new long[LONGS];

        void begin() {
            bits[0] = 1;
            for (int i = 1; i < LONGS; i++) bits[i] = 0;
        }

        /** The family has one set more: what was matched is so still, and so it is with a post of that set. */
        void join(int set) {
            for (int i = 0; i < LONGS; i++) before[i] = bits[i];
            for (int e = 0; e < MOST_POSTS; e++) {
                if (has(set, e)) spread(e);
            }
        }

        private void spread(int e) {
            if (e < POSTS_IN_LONG) {
                for (int i = 0; i < LONGS; i++) bits[i] |= (before[i] & LACKING[e]) << (1 << e);
                return;
            }
            int far = 1 << e - POSTS_IN_LONG;
            for (int i = 0; i + far < LONGS; i++) {
                if ((i & far) == 0) bits[i + far] |= before[i];
            }
        }

        boolean holds(int x) {
            return (bits[x >> POSTS_IN_LONG] >>> (x & 63) & 1) == 1;
        }

        boolean isLike(Matched other) {
            for (int i = 0; i < LONGS; i++) {
                if (bits[i] != other.bits[i]) return false;
            }
            return true;
        }
    }

    /** The ranks of all sets of posts by the four sides, and what is told by ranks alone. */
    private static final class Ranks {
        private final Matched matched = new Matched();
        private final Matched trial = new Matched();
        private final int[] byTurned = new int[MOST_SUBSETS];
        private final int[] byFamily = new int[MOST_SUBSETS];
        private int posts = 0;
        private int all = 0;
        private int madeAt = -1;

        void refresh(Table table) {
            if (madeAt == table.changes) return;
            posts = table.posts;
            all = table.all();
            trial.begin();
            for (int v = 0; v < table.posts; v++) {
                if (!has(table.targets, v)) trial.join(table.roads[v] | 1 << v);
            }
            fill(byTurned, trial);
            matched.begin();
            for (int k = 0; k < table.sets; k++) matched.join(table.family[k]);
            fill(byFamily, matched);
            madeAt = table.changes;
        }

        private void fill(int[] ranks, Matched free) {
            for (int x = 0; x <= all; x++) {
                ranks[x] = free.holds(x) ? Integer.bitCount(x) : greatestWithin(ranks, x);
            }
        }

        private int greatestWithin(int[] ranks, int x) {
            int greatest = 0;
            for (int e = 0; e < posts; e++) {
                if (has(x, e)) greatest = Math.max(greatest, ranks[x & ~(1 << e)]);
            }
            return greatest;
        }

        int of(int w, int x) {
            // The dual of the roads is the family that turned() makes (Ingleton and Piff).
            int[] plain = w == 0 || w == 2 ? byTurned : byFamily;
            if (w == 1 || w == 2) return plain[x];
            return Integer.bitCount(x) + plain[all & ~x] - plain[all];
        }

        boolean isFree(int w, int x) {
            return of(w, x) == Integer.bitCount(x);
        }

        boolean isBase(int w, int x) {
            return isFree(w, x) && of(w, x) == of(w, all);
        }

        boolean isOf(int kind, int w, int x) {
            switch (kind) {
                case BASES: return isBase(w, x);
                case CIRCUITS: return isCircuit(w, x);
                case FLATS: return shutOf(w, x) == x;
                default: return false;
            }
        }

        private boolean isCircuit(int w, int x) {
            if (isFree(w, x)) return false;
            for (int e = 0; e < posts; e++) {
                if (has(x, e) && !isFree(w, x & ~(1 << e))) return false;
            }
            return true;
        }

        int shutOf(int w, int x) {
            int shut = x;
            for (int e = 0; e < posts; e++) {
                if (of(w, x | 1 << e) == of(w, x)) shut |= 1 << e;
            }
            return shut;
        }

        int boundOf(int w) {
            int bound = 0;
            for (int e = 0; e < posts; e++) {
                if (of(w, all & ~(1 << e)) < of(w, all)) bound |= 1 << e;
            }
            return bound;
        }

        /** The circuit within a base and a post: those posts without which the others are a base. */
        int roundOf(int w, int x) {
            int round = 0;
            for (int e = 0; e < posts; e++) {
                if (has(x, e) && isBase(w, x & ~(1 << e))) round |= 1 << e;
            }
            return round;
        }

        int swapOf(int w, int rest, int others) {
            for (int f = 0; f < posts; f++) {
                if (has(others, f) && isBase(w, rest | 1 << f)) return f;
            }
            return NOT;
        }

        /** How many bases differ from base x by one post each and are greater as bits. */
        int stepsUp(int w, int x) {
            int steps = 0;
            for (int e = 0; e < posts; e++) {
                for (int f = e + 1; f < posts; f++) {
                    if (has(x, e) && !has(x, f) && isBase(w, x & ~(1 << e) | 1 << f)) steps++;
                }
            }
            return steps;
        }

        /** Whether the family would have the bases that it has, if its set k were another one. */
        boolean stays(Table table, int k, int set) {
            trial.begin();
            for (int j = 0; j < table.sets; j++) trial.join(j == k ? set : table.family[j]);
            return trial.isLike(matched);
        }
    }

    /** Items that ask for one of some options (bits) each, no two for the same: the first way to do it. */
    private static final class Choice {
        int items = 0;
        final int[] chosen = new int[MOST_POSTS];
        private final int[] asked = new int[MOST_POSTS];
        private final boolean[] ends = new boolean[MOST_SUBSETS];

        void begin() {
            items = 0;
        }

        void ask(int options) {
            if (items >= MOST_POSTS) return;
            asked[items] = options;
            items++;
        }

        boolean isMade(int options) {
            // As many options are taken as items are ahead, so those taken tell the next item.
            for (int taken = (1 << options) - 1; taken >= 0; taken--) {
                int next = Integer.bitCount(taken);
                ends[taken] = next >= items || leastOption(next, taken, options) != NONE;
            }
            if (!ends[0]) return false;
            int taken = 0;
            for (int i = 0; i < items; i++) {
                int option = leastOption(i, taken, options);
                if (option == NONE) return false;
                chosen[i] = option;
                taken |= 1 << option;
            }
            return true;
        }

        private int leastOption(int item, int taken, int options) {
            for (int o = 0; o < options; o++) {
                if (has(asked[item] & ~taken, o) && ends[taken | 1 << o]) return o;
            }
            return NONE;
        }
    }

    /** The bytes that were fed, and a walk over their statements. */
    private static final class Tape {
        final char[] bytes = new char[MOST_BYTES];
        int length = 0;
        int word = NO_WORD;
        int first = 0;
        int second = 0;
        int told = 0;
        private int at = 0;
        private int fault = NO_FAULT;

        void rewind() {
            at = 0;
            fault = NO_FAULT;
        }

        int findFault() {
            rewind();
            boolean goesOn = true;
            for (int turn = 0; goesOn && turn <= length; turn++) {
                takeStatement();
                goesOn = fault == NO_FAULT && takeSemicolon();
            }
            return fault;
        }

        /** Whether another statement follows; a byte that is neither its semicolon nor the end is a fault. */
        boolean takeSemicolon() {
            if (at >= length) return false;
            if (bytes[at] != ';') {
                fault = at;
                return false;
            }
            at++;
            return true;
        }

        void takeStatement() {
            int begin = at;
            while (at < length && bytes[at] >= 'a' && bytes[at] <= 'z') at++;
            word = wordFrom(begin);
            first = 0;
            second = 0;
            told = 0;
            switch (word) {
                case NO_WORD:
                    fault = begin;
                    break;
                case WORD_SET:
                    takePosts();
                    break;
                default:
                    first = takeNumber(1);
                    if (word == WORD_ROAD || word == WORD_BLOCK) second = takeNumber(1);
                    if (word == WORD_WEIGH) second = takeNumber(2);
                    break;
            }
        }

        private int wordFrom(int begin) {
            if (isWord("posts", begin)) return WORD_POSTS;
            if (isWord("road", begin)) return WORD_ROAD;
            if (isWord("block", begin)) return WORD_BLOCK;
            if (isWord("to", begin)) return WORD_TO;
            if (isWord("set", begin)) return WORD_SET;
            if (isWord("weigh", begin)) return WORD_WEIGH;
            return NO_WORD;
        }

        private boolean isWord(String name, int begin) {
            if (at - begin != name.length()) return false;
            for (int i = 0; i < name.length(); i++) {
                if (bytes[begin + i] != name.charAt(i)) return false;
            }
            return true;
        }

        private void takePosts() {
            for (int turn = 0; turn < length; turn++) {
                if (fault != NO_FAULT || at >= length || bytes[at] != ' ') return;
                told |= 1 << takeNumber(1);
            }
        }

        /** A blank and as many figures as stand there, one at least; behind a fault nothing is taken. */
        private int takeNumber(int mostFigures) {
            if (fault != NO_FAULT) return 0;
            if (at >= length || bytes[at] != ' ') {
                fault = at;
                return 0;
            }
            at++;
            if (!isFigure()) {
                fault = at;
                return 0;
            }
            int value = 0;
            for (int turn = 0; turn < mostFigures && isFigure(); turn++) {
                value = value * 10 + bytes[at] - '0';
                at++;
            }
            return value;
        }

        private boolean isFigure() {
            return at < length && bytes[at] >= '0' && bytes[at] <= '9';
        }
    }

    /** The text that makes a table from a new one. */
    private static final class Speller {
        final char[] text = new char[MOST_SPELLED];
        int length = 0;
        private int madeAt = -1;

        void spell(Table table) {
            if (madeAt == table.changes) return;
            length = 0;
            write("posts");
            writeNumber(table.posts);
            writeRoads(table);
            writePostsOf("to", table.targets);
            for (int k = 0; k < table.sets; k++) writeSet(table.family[k]);
            writeWeights(table);
            madeAt = table.changes;
        }

        private void writeRoads(Table table) {
            for (int i = 0; i < table.posts; i++) {
                for (int j = 0; j < table.posts; j++) {
                    if (!has(table.roads[i], j)) continue;
                    write(";road");
                    writeNumber(i);
                    writeNumber(j);
                }
            }
        }

        private void writePostsOf(String word, int set) {
            for (int i = 0; i < MOST_POSTS; i++) {
                if (!has(set, i)) continue;
                write(";");
                write(word);
                writeNumber(i);
            }
        }

        private void writeSet(int set) {
            write(";set");
            for (int i = 0; i < MOST_POSTS; i++) {
                if (has(set, i)) writeNumber(i);
            }
        }

        private void writeWeights(Table table) {
            for (int i = 0; i < table.posts; i++) {
                if (table.weights[i] == 0) continue;
                write(";weigh");
                writeNumber(i);
                writeNumber(table.weights[i]);
            }
        }

        private void writeNumber(int value) {
            writeSign(' ');
            if (value >= 10) writeSign((char) ('0' + value / 10));
            writeSign((char) ('0' + value % 10));
        }

        private void write(String signs) {
            for (int i = 0; i < signs.length(); i++) writeSign(signs.charAt(i));
        }

        private void writeSign(char sign) {
            if (length >= MOST_SPELLED) return;
            text[length] = sign;
            length++;
        }
    }
}
