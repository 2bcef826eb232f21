import java.util.ArrayList;
import java.util.Arrays;
import java.util.List;
import java.util.regex.Matcher;
import java.util.regex.Pattern;

/** The document's words done one by one, slowly: every way, every matching, every set of posts is tried. */
final class NaiveRoadLinks {
    private static final Pattern TEXT = Pattern.compile(statements());
    private static final List<String> WORDS = List.of("posts", "road", "block", "to", "set", "weigh");

    private int n = 1;
    private boolean[][] roads = new boolean[8][8];
    private int targets = 0;
    private int[] weights = new int[8];
    private List<Integer> family = new ArrayList<>();
    private final List<int[]> rows = new ArrayList<>(Arrays.asList(null, null, null));
    private final StringBuilder tape = new StringBuilder();
    private NaiveRoadLinks image = null;
    private final boolean[][] freeSets = new boolean[4][];

    private static String statements() {
        String one = "(posts \\d|road \\d \\d|block \\d \\d|to \\d|set( \\d)*|weigh \\d \\d{1,2})";
        return one + "(;" + one + ")*";
    }

    private int all() {
        return (1 << n) - 1;
    }

    private boolean noPost(int i) {
        return i < 0 || i >= n;
    }

    private boolean noSet(int x) {
        return x < 0 || x > all();
    }

    private boolean noSide(int w) {
        return w < 0 || w > 3;
    }

    private static boolean in(int e, int x) {
        return (x >> e & 1) == 1;
    }

    private static int with(int x, int e) {
        return x | 1 << e;
    }

    private static int without(int x, int e) {
        return x & ~(1 << e);
    }

    private void forget() {
        Arrays.fill(freeSets, null);
    }

    // ---- what the terms say

    private boolean linked(int rest, int used) {
        if (rest == 0) return true;
        int e = Integer.numberOfTrailingZeros(rest);
        return linkedFrom(e, without(rest, e), with(used, e));
    }

    private boolean linkedFrom(int at, int rest, int used) {
        if (in(at, targets) && linked(rest, used)) return true;
        for (int j = 0; j < n; j++) {
            if (roads[at][j] && !in(j, used) && !in(j, rest) && linkedFrom(j, rest, with(used, j))) return true;
        }
        return false;
    }

    private static boolean matched(List<Integer> sets, int rest, int used) {
        if (rest == 0) return true;
        int e = Integer.numberOfTrailingZeros(rest);
        for (int k = 0; k < sets.size(); k++) {
            if (in(e, sets.get(k)) && !in(k, used) && matched(sets, without(rest, e), with(used, k))) return true;
        }
        return false;
    }

    private boolean[] matchedSets(List<Integer> sets) {
        boolean[] free = new boolean[1 << n];
        for (int x = 0; x < free.length; x++) free[x] = matched(sets, x, 0);
        return free;
    }

    private static List<Integer> basesOf(boolean[] free) {
        int most = 0;
        for (int x = 0; x < free.length; x++) if (free[x]) most = Math.max(most, Integer.bitCount(x));
        List<Integer> bases = new ArrayList<>();
        for (int x = 0; x < free.length; x++) if (free[x] && Integer.bitCount(x) == most) bases.add(x);
        return bases;
    }

    private boolean[] freeOf(int w) {
        if (freeSets[w] != null) return freeSets[w];
        boolean[] free = new boolean[1 << n];
        if (w == 0) for (int x = 0; x < free.length; x++) free[x] = linked(x, 0);
        if (w == 1) free = matchedSets(family);
        if (w >= 2) {
            for (int b : basesOf(freeOf(w - 2))) {
                for (int x = 0; x < free.length; x++) if ((x & b) == 0) free[x] = true;
            }
        }
        freeSets[w] = free;
        return free;
    }

    private List<Integer> bases(int w) {
        return basesOf(freeOf(w));
    }

    /** A base of a side, or any set where w is no side: for arguments that are often right. */
    int someBase(int w, int any) {
        if (noSide(w)) return any & all();
        List<Integer> bases = bases(w);
        return bases.get(any % bases.size());
    }

    private int rankOf(int w, int x) {
        boolean[] free = freeOf(w);
        int most = 0;
        for (int y = 0; y <= x; y++) if ((y & ~x) == 0 && free[y]) most = Math.max(most, Integer.bitCount(y));
        return most;
    }

    private boolean isCircuit(int w, int x) {
        boolean[] free = freeOf(w);
        if (free[x]) return false;
        for (int e = 0; e < n; e++) if (in(e, x) && !free[without(x, e)]) return false;
        return true;
    }

    private int shutOf(int w, int x) {
        int shut = 0;
        for (int e = 0; e < n; e++) if (rankOf(w, with(x, e)) == rankOf(w, x)) shut |= 1 << e;
        return shut;
    }

    private int wayTo(int x, int stop) {
        boolean[] seen = new boolean[8];
        for (int e = 0; e < n; e++) if (in(e, x) && !in(e, stop)) walk(e, stop, seen);
        int reached = 0;
        for (int e = 0; e < n; e++) if (seen[e]) reached |= 1 << e;
        return reached;
    }

    private void walk(int e, int stop, boolean[] seen) {
        if (seen[e]) return;
        seen[e] = true;
        for (int j = 0; j < n; j++) if (roads[e][j] && !in(j, stop)) walk(j, stop, seen);
    }

    /** The first way to give each of some items one of its options, in the order of the words. */
    private static List<Integer> firstWay(List<Integer> options, int used) {
        if (options.isEmpty()) return new ArrayList<>();
        for (int o = 0; o < 8; o++) {
            if (!in(o, options.get(0)) || in(o, used)) continue;
            List<Integer> rest = firstWay(options.subList(1, options.size()), with(used, o));
            if (rest == null) continue;
            rest.add(0, o);
            return rest;
        }
        return null;
    }

    private boolean sameBases(List<Integer> sets) {
        return basesOf(matchedSets(sets)).equals(bases(1));
    }

    private boolean sameBasesIf(int k, int set) {
        List<Integer> sets = new ArrayList<>(family);
        sets.set(k, set);
        return sameBases(sets);
    }

    // ---- posts, roads, sets

    int posts(int m) {
        if (m < 1 || m > 8) return -2;
        int was = n;
        n = m;
        roads = new boolean[8][8];
        targets = 0;
        weights = new int[8];
        family = new ArrayList<>();
        forget();
        return was;
    }

    int road(int i, int j, int is) {
        if (noPost(i) || noPost(j)) return -1;
        if (is != 0 && is != 1) return -2;
        if (i == j) return -3;
        boolean was = roads[i][j];
        roads[i][j] = is == 1;
        forget();
        return was ? 1 : 0;
    }

    int isRoad(int i, int j) {
        if (noPost(i) || noPost(j)) return -1;
        return roads[i][j] ? 1 : 0;
    }

    int targets(int set) {
        if (noSet(set)) return -2;
        int was = targets;
        targets = set;
        forget();
        return was;
    }

    int weigh(int i, int v) {
        if (noPost(i)) return -1;
        if (v < 0 || v > 99) return -2;
        int was = weights[i];
        weights[i] = v;
        return was;
    }

    int add(int set) {
        if (noSet(set)) return -2;
        if (family.size() == 8) return -4;
        family.add(set);
        forget();
        return family.size() - 1;
    }

    int change(int k, int set) {
        if (k < 0 || k >= family.size()) return -1;
        if (noSet(set)) return -2;
        forget();
        return family.set(k, set);
    }

    int drop(int k) {
        if (k < 0 || k >= family.size()) return -1;
        family.remove(k);
        forget();
        return family.size();
    }

    int set(int k) {
        return k < 0 || k >= family.size() ? -1 : family.get(k);
    }

    // ---- ranks

    int rank(int w, int x) {
        if (noSide(w)) return -1;
        return noSet(x) ? -2 : rankOf(w, x);
    }

    int free(int w, int x) {
        if (noSide(w)) return -1;
        if (noSet(x)) return -2;
        return freeOf(w)[x] ? 1 : 0;
    }

    private static int numbered(List<Integer> list, int k) {
        if (k == -1) return list.size();
        return k < -1 || k >= list.size() ? -1 : list.get(k);
    }

    int base(int w, int k) {
        return noSide(w) ? -1 : numbered(bases(w), k);
    }

    int circuit(int w, int k) {
        if (noSide(w)) return -1;
        List<Integer> circuits = new ArrayList<>();
        for (int x = 0; x <= all(); x++) if (isCircuit(w, x)) circuits.add(x);
        return numbered(circuits, k);
    }

    int flat(int w, int k) {
        if (noSide(w)) return -1;
        List<Integer> flats = new ArrayList<>();
        for (int x = 0; x <= all(); x++) if (shutOf(w, x) == x) flats.add(x);
        return numbered(flats, k);
    }

    int shut(int w, int x) {
        if (noSide(w)) return -1;
        return noSet(x) ? -2 : shutOf(w, x);
    }

    int loops(int w, int what) {
        if (noSide(w) || what < 0 || what > 1) return -1;
        int inAny = 0;
        int inAll = all();
        for (int b : bases(w)) {
            inAny |= b;
            inAll &= b;
        }
        return what == 0 ? all() & ~inAny : inAll;
    }

    int round(int w, int b, int e) {
        if (noSide(w) || noPost(e)) return -1;
        if (noSet(b)) return -2;
        if (!bases(w).contains(b) || in(e, b)) return -5;
        for (int x = 0; x <= all(); x++) if ((x & ~with(b, e)) == 0 && isCircuit(w, x)) return x;
        throw new IllegalStateException("no circuit");
    }

    int swap(int w, int b, int c, int e) {
        if (noSide(w) || noPost(e)) return -1;
        if (noSet(b) || noSet(c)) return -2;
        if (!bases(w).contains(b) || !bases(w).contains(c) || !in(e, b) || in(e, c)) return -5;
        for (int f = 0; f < n; f++) {
            if (in(f, c) && !in(f, b) && bases(w).contains(with(without(b, e), f))) return f;
        }
        throw new IllegalStateException("no swap");
    }

    int steps(int w) {
        if (noSide(w)) return -1;
        int steps = 0;
        for (int b : bases(w)) {
            for (int c : bases(w)) if (b < c && Integer.bitCount(b & ~c) == 1 && Integer.bitCount(c & ~b) == 1) steps++;
        }
        return steps;
    }

    int less(int w, int d, int k, int x) {
        if (noSide(w)) return -1;
        if (noSet(d) || noSet(k) || noSet(x)) return -2;
        if ((d & k) != 0 || (x & (d | k)) != 0) return -2;
        return rankOf(w, x | k) - rankOf(w, k);
    }

    private int weightOf(int x) {
        int sum = 0;
        for (int e = 0; e < n; e++) if (in(e, x)) sum += weights[e];
        return sum;
    }

    int heaviest(int w, int what) {
        if (noSide(w) || what < 0 || what > 1) return -1;
        int best = bases(w).get(0);
        for (int b : bases(w)) if (weightOf(b) > weightOf(best)) best = b;
        return what == 0 ? best : weightOf(best);
    }

    int alike(int w, int v) {
        if (noSide(w) || noSide(v)) return -1;
        if (bases(w).equals(bases(v))) return -5;
        for (int x = 0; x <= all(); x++) if (rankOf(w, x) != rankOf(v, x)) return x;
        throw new IllegalStateException("other bases, the same ranks");
    }

    // ---- links, partners

    int cut(int x) {
        if (noSet(x)) return -2;
        for (int size = 0; size <= n; size++) {
            for (int s = 0; s <= all(); s++) {
                if (Integer.bitCount(s) == size && (wayTo(x, s) & targets) == 0) return s;
            }
        }
        throw new IllegalStateException("no cut");
    }

    int reach(int x) {
        return noSet(x) ? -2 : wayTo(x, 0);
    }

    int partners(int x) {
        if (noSet(x)) return -2;
        List<Integer> options = new ArrayList<>();
        for (int e = 0; e < n; e++) {
            if (!in(e, x)) continue;
            int sets = 0;
            for (int k = 0; k < family.size(); k++) if (in(e, family.get(k))) sets |= 1 << k;
            options.add(sets);
        }
        List<Integer> way = firstWay(options, 0);
        if (way == null) return -5;
        StringBuilder digits = new StringBuilder("0");
        for (int k : way) digits.append(k + 1);
        return Integer.parseInt(digits.toString());
    }

    int turned() {
        family = new ArrayList<>();
        for (int v = 0; v < n; v++) {
            if (in(v, targets)) continue;
            int set = 1 << v;
            for (int j = 0; j < n; j++) if (roads[v][j]) set |= 1 << j;
            family.add(set);
        }
        forget();
        return family.size();
    }

    int strict() {
        List<Integer> way = firstWay(family, 0);
        if (way == null) return -3;
        roads = new boolean[8][8];
        targets = all();
        int count = 0;
        for (int k = 0; k < way.size(); k++) {
            int e = way.get(k);
            targets = without(targets, e);
            for (int j = 0; j < n; j++) {
                if (j == e || !in(j, family.get(k))) continue;
                roads[e][j] = true;
                count++;
            }
        }
        forget();
        return count;
    }

    // ---- small families

    int spare(int k) {
        if (k < 0 || k >= family.size()) return -1;
        int spare = 0;
        for (int e = 0; e < n; e++) {
            if (in(e, family.get(k)) && sameBasesIf(k, without(family.get(k), e))) spare |= 1 << e;
        }
        return spare;
    }

    int room(int k) {
        if (k < 0 || k >= family.size()) return -1;
        int room = 0;
        for (int e = 0; e < n; e++) {
            if (!in(e, family.get(k)) && sameBasesIf(k, with(family.get(k), e))) room |= 1 << e;
        }
        return room;
    }

    int idle() {
        int idle = 0;
        for (int k = 0; k < family.size(); k++) {
            List<Integer> sets = new ArrayList<>(family);
            sets.remove(k);
            if (sameBases(sets)) idle |= 1 << k;
        }
        return idle;
    }

    int small() {
        int out = 0;
        for (int k = 0; k < family.size(); k++) {
            for (int e = 0; e < n; e++) {
                int set = family.get(k);
                if (!in(e, set) || !sameBasesIf(k, without(set, e))) continue;
                family.set(k, without(set, e));
                out++;
            }
        }
        family.removeIf(set -> set == 0);
        forget();
        return out;
    }

    // ---- rows

    int row(int r, int size) {
        if (r < 0 || r > 2) return -1;
        if (size > 40) return -2;
        if (size < 0) return -14;
        rows.set(r, new int[size]);
        return 1;
    }

    int lose(int r) {
        if (r < 0 || r > 2) return -1;
        if (rows.get(r) == null) return -11;
        return rows.set(r, null).length;
    }

    int put(int r, int i, int v) {
        if (r < 0 || r > 2) return -1;
        if (rows.get(r) == null) return -11;
        if (i < 0 || i >= rows.get(r).length) return -13;
        rows.get(r)[i] = v;
        return 1;
    }

    long get(int r, int i) {
        if (r < 0 || r > 2 || rows.get(r) == null || i < 0 || i >= rows.get(r).length) return Long.MIN_VALUE;
        return rows.get(r)[i];
    }

    int copy(int r, int i, int other, int j, int size) {
        if (r < 0 || r > 2 || other < 0 || other > 2) return -1;
        if (rows.get(r) == null || rows.get(other) == null) return -11;
        if (size < 0 || i < 0 || j < 0) return -13;
        if ((long) i + size > rows.get(r).length || (long) j + size > rows.get(other).length) return -13;
        int[] was = rows.get(r).clone();
        for (int k = 0; k < size; k++) rows.get(other)[j + k] = was[i + k];
        return size;
    }

    int film(int r, int w, int x, int size) {
        if (r < 0 || r > 2 || noSide(w)) return -1;
        if (noSet(x) || size < 0 || size > 40) return -2;
        List<Integer> ranks = new ArrayList<>();
        for (int k = 0; k < size; k++) if (!noSet(x + k)) ranks.add(rankOf(w, x + k));
        rows.set(r, ranks.stream().mapToInt(Integer::intValue).toArray());
        return ranks.size();
    }

    int judge(int r, int w, int x) {
        if (r < 0 || r > 2 || noSide(w)) return -1;
        if (noSet(x)) return -2;
        if (rows.get(r) == null) return -11;
        for (int k = 0; k < rows.get(r).length; k++) {
            if (noSet(x + k) || rankOf(w, x + k) != rows.get(r)[k]) return k;
        }
        return 100 + rows.get(r).length;
    }

    // ---- texts, the image

    int feed(int letter) {
        if (letter < 32 || letter > 126) return -2;
        if (tape.length() == 120) return -4;
        tape.append((char) letter);
        return tape.length();
    }

    int wipe() {
        int had = tape.length();
        tape.setLength(0);
        return had;
    }

    /** How far a text can go on along this one: the longest beginning of it that some text begins with. */
    private static int goodBytes(String text) {
        for (int end = text.length(); end > 0; end--) {
            Matcher m = TEXT.matcher(text.substring(0, end));
            if (m.matches() || m.hitEnd()) return end;
        }
        return 0;
    }

    private static int faultOf(String text) {
        if (TEXT.matcher(text).matches()) return -1;
        int fault = goodBytes(text);
        int begin = fault == 0 ? 0 : text.lastIndexOf(';', fault - 1) + 1;
        int end = begin;
        while (end < text.length() && Character.isLowerCase(text.charAt(end))) end++;
        return WORDS.contains(text.substring(begin, end)) ? fault : begin;
    }

    int read() {
        String text = tape.toString();
        tape.setLength(0);
        int fault = faultOf(text);
        if (fault >= 0) return -100 - fault;
        int done = 0;
        for (String statement : text.split(";")) {
            if (!isDone(statement.split(" "))) return -300 - done;
            done++;
        }
        return done;
    }

    private boolean isDone(String[] words) {
        int[] told = new int[words.length];
        for (int k = 1; k < words.length; k++) told[k] = Integer.parseInt(words[k]);
        switch (words[0]) {
            case "posts": return posts(told[1]) >= 0;
            case "road": return road(told[1], told[2], 1) >= 0;
            case "block": return road(told[1], told[2], 0) >= 0;
            case "to": return !noPost(told[1]) && targets(with(targets, told[1])) >= 0;
            case "weigh": return weigh(told[1], told[2]) >= 0;
            default:
        }
        int set = 0;
        for (int k = 1; k < words.length; k++) {
            if (noPost(told[k])) return false;
            set = with(set, told[k]);
        }
        return add(set) >= 0;
    }

    String spelling() {
        StringBuilder text = new StringBuilder("posts " + n);
        for (int i = 0; i < n; i++) {
            for (int j = 0; j < n; j++) if (roads[i][j]) text.append(";road " + i + " " + j);
        }
        for (int i = 0; i < n; i++) if (in(i, targets)) text.append(";to " + i);
        for (int set : family) {
            text.append(";set");
            for (int i = 0; i < n; i++) if (in(i, set)) text.append(" " + i);
        }
        for (int i = 0; i < n; i++) if (weights[i] > 0) text.append(";weigh " + i + " " + weights[i]);
        return text.toString();
    }

    int spelled(int i) {
        String text = spelling();
        if (i == -1) return text.length();
        return i < 0 || i >= text.length() ? -1 : text.charAt(i);
    }

    private static void copyTable(NaiveRoadLinks from, NaiveRoadLinks to) {
        to.n = from.n;
        for (int i = 0; i < 8; i++) to.roads[i] = from.roads[i].clone();
        to.targets = from.targets;
        to.weights = from.weights.clone();
        to.family = new ArrayList<>(from.family);
        to.forget();
    }

    int image() {
        image = new NaiveRoadLinks();
        copyTable(this, image);
        return n;
    }

    int undo() {
        if (image == null) return -3;
        copyTable(image, this);
        return n;
    }

    int count(int what) {
        int roadCount = 0;
        for (boolean[] from : roads) for (boolean is : from) if (is) roadCount++;
        int rowCount = 0;
        for (int[] row : rows) if (row != null) rowCount++;
        int[] counts = {n, roadCount, targets, family.size(), tape.length(), rowCount, weightOf(all())};
        return what < 0 || what >= counts.length ? -1 : counts[what];
    }
}
