import java.lang.reflect.InvocationTargetException;
import java.lang.reflect.Method;
import java.util.Arrays;
import java.util.TreeSet;

/**
 * Each call with each of some edge numbers in each of its places, on the class and on the naive model, on tables
 * that are new, small and full. A pair of objects that has many calls behind it is compared and made anew.
 */
public final class SweepTests {
    private static final Tally TALLY = new Tally("sweep");
    private static final int MOST_CALLS = 512;
    private static final int CALLS_BEHIND = 200;
    private static final String[][] TABLES = {
        {},
        {"posts 3", "road 0 1 1", "road 1 2 1", "targets 6", "add 3", "add 5", "weigh 1 99", "weigh 2 4", "row 1 3",
            "film 2 1 3 5", "put 1 2 1", "feed 115", "feed 101", "image"},
        {"posts 8", "road 0 7 1", "road 7 0 1", "road 1 7 1", "road 2 6 1", "road 3 6 1", "road 6 5 1", "targets 176",
            "add 255", "add 129", "add 7", "add 0", "add 56", "add 192", "add 192", "add 1", "weigh 7 99", "row 0 40",
            "film 1 0 100 40", "copy 1 0 0 1 39", "row 2 0", "image", "posts 8", "undo"},
        {"posts 8", "turned", "strict", "add 255", "change 0 2", "drop 1", "row 0 1"}
    };

    private final String[] table;
    private final int n;
    private RoadLinks real;
    private NaiveRoadLinks model;
    private int made;

    private SweepTests(String[] table) throws ReflectiveOperationException {
        this.table = table;
        begin();
        n = model.count(0);
    }

    public static void main(String[] args) throws ReflectiveOperationException {
        for (String[] table : TABLES) {
            for (Method call : RoadLinks.class.getDeclaredMethods()) {
                if ((call.getModifiers() & 1) == 0) continue;
                SweepTests sweep = new SweepTests(table);
                sweep.over(call, new int[call.getParameterCount()], 0);
                sweep.compare();
            }
        }
        TALLY.end();
    }

    private void begin() throws ReflectiveOperationException {
        real = new RoadLinks();
        model = new NaiveRoadLinks();
        made = 0;
        for (String line : table) {
            String[] words = line.split(" ");
            int[] told = new int[words.length - 1];
            for (int i = 0; i < told.length; i++) told[i] = Integer.parseInt(words[i + 1]);
            same(words[0], told);
        }
    }

    private void over(Method call, int[] told, int place) throws ReflectiveOperationException {
        if (place == told.length) {
            same(call.getName(), told);
            if (made > CALLS_BEHIND) {
                compare();
                begin();
            }
            return;
        }
        for (int edge : edges(told.length)) {
            told[place] = edge;
            over(call, told, place + 1);
        }
    }

    /** Fewer of them where a call takes many. */
    private TreeSet<Integer> edges(int places) {
        TreeSet<Integer> edges = new TreeSet<>(Arrays.asList(-1, 0, 1, 3, n, (1 << n) - 1));
        edges.addAll(Arrays.asList(Integer.MIN_VALUE, Integer.MAX_VALUE));
        if (places < 5) edges.addAll(Arrays.asList(2, n - 1, 4, 40));
        if (places < 4) edges.addAll(Arrays.asList(-2, 1 << n, 6, 7, 8, 39, 41, 99, 100));
        if (places == 1) edges.addAll(Arrays.asList(31, 32, 126, 127, 255, 256, 257));
        return edges;
    }

    private void same(String name, int... told) throws ReflectiveOperationException {
        made++;
        if (made > MOST_CALLS) throw new IllegalStateException("too many calls");
        Class<?>[] types = new Class<?>[told.length];
        Arrays.fill(types, int.class);
        Object[] boxed = Arrays.stream(told).boxed().toArray();
        try {
            Object got = RoadLinks.class.getMethod(name, types).invoke(real, boxed);
            Object want = NaiveRoadLinks.class.getDeclaredMethod(name, types).invoke(model, boxed);
            String call = "posts " + model.count(0) + ": " + name + Arrays.toString(told);
            TALLY.due(call, ((Number) got).longValue(), ((Number) want).longValue());
        } catch (InvocationTargetException thrown) {
            throw new IllegalStateException(name + Arrays.toString(told), thrown);
        }
    }

    private void compare() throws ReflectiveOperationException {
        for (int what = 0; what <= 6; what++) same("count", what);
        int length = model.spelled(-1);
        for (int i = -1; i <= length && made < MOST_CALLS - 50; i++) same("spelled", i);
        for (int r = 0; r < 3; r++) {
            for (int i = 0; i < 40 && made < MOST_CALLS - 5; i += 1 + i / 4) same("get", r, i);
        }
        same("undo");
    }
}
