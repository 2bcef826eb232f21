import java.lang.reflect.Method;
import java.util.Arrays;

/** All tables of up to three posts and three sets: each question about them, on the class and on the naive model. */
public final class AllTests {
    private static final Tally TALLY = new Tally("all");
    private static final int MOST_CALLS = 512;
    private static final int SIDES = 4;
    private static final String[] CHANGES = {"turned", "strict", "small"};

    private final int posts;
    private final int roads;
    private final int targets;
    private final int[] family;
    private final int[] weights;
    private RoadLinks real;
    private NaiveRoadLinks model;
    private int made;

    private AllTests(int posts, int roads, int targets, int[] family, int[] weights) throws ReflectiveOperationException {
        this.posts = posts;
        this.roads = roads;
        this.targets = targets;
        this.family = family;
        this.weights = weights;
        begin();
    }

    public static void main(String[] args) throws ReflectiveOperationException {
        for (int posts = 1; posts <= 3; posts++) tables(posts);
        TALLY.end();
    }

    /** No side is made of both roads and families, so each of them is gone through, not each pair. */
    private static void tables(int posts) throws ReflectiveOperationException {
        int subsets = 1 << posts;
        int ofRoads = (1 << posts * (posts - 1)) * subsets;
        int ofFamilies = 1 + subsets + subsets * subsets + subsets * subsets * subsets;
        for (int i = 0; i < Math.max(ofRoads, ofFamilies); i++) {
            int roads = i % ofRoads;
            int[] weights = {i % 3, i / 3 % 3, i / 9 % 3};
            new AllTests(posts, roads / subsets, roads % subsets, familyOf(i % ofFamilies, subsets), weights).asked();
            if (TALLY.failed() > 20) return;
        }
    }

    private static int[] familyOf(int number, int subsets) {
        int rest = number;
        int sets = 0;
        for (int many = 1; rest >= many; many *= subsets) {
            rest -= many;
            sets++;
        }
        int[] family = new int[sets];
        for (int k = 0; k < sets; k++) {
            family[k] = rest % subsets;
            rest /= subsets;
        }
        return family;
    }

    private void begin() throws ReflectiveOperationException {
        real = new RoadLinks();
        model = new NaiveRoadLinks();
        made = 0;
        ask("posts", posts);
        int rest = roads;
        for (int i = 0; i < posts; i++) {
            for (int j = 0; j < posts; j++) {
                if (i == j) continue;
                ask("road", i, j, rest & 1);
                rest >>= 1;
            }
            ask("weigh", i, weights[i]);
        }
        ask("targets", targets);
        for (int set : family) ask("add", set);
        ask("image");
    }

    private void asked() throws ReflectiveOperationException {
        int subsets = 1 << posts;
        for (int w = 0; w < SIDES; w++) {
            for (int x = 0; x < subsets; x++) bySet(w, x);
            for (int k = -1; k <= subsets; k++) listed(w, k);
            for (int v = 0; v < SIDES; v++) same("alike", w, v);
            for (int what = 0; what < 2; what++) {
                same("loops", w, what);
                same("heaviest", w, what);
            }
            same("steps", w);
            same("film", 0, w, 0, 40);
            same("judge", 0, (w + 1) % SIDES, 0);
        }
        for (int x = 0; x < subsets; x++) {
            same("cut", x);
            same("reach", x);
            same("partners", x);
        }
        for (int k = 0; k < family.length; k++) {
            same("spare", k);
            same("room", k);
        }
        same("idle");
        spelled();
        for (String change : CHANGES) changed(change);
    }

    private void bySet(int w, int x) throws ReflectiveOperationException {
        same("rank", w, x);
        same("free", w, x);
        same("shut", w, x);
        for (int e = 0; e < posts; e++) {
            same("round", w, x, e);
            for (int c = 0; c < 1 << posts; c++) same("swap", w, x, c, e);
        }
        for (int held = 0; held < 1 << posts; held++) {
            same("less", w, 0, held, x);
            same("less", w, (1 << posts) - 1 & ~held, held, x);
        }
    }

    private void listed(int w, int k) throws ReflectiveOperationException {
        same("base", w, k);
        same("circuit", w, k);
        same("flat", w, k);
    }

    private void spelled() throws ReflectiveOperationException {
        int length = model.spelled(-1);
        for (int i = -1; i <= length; i++) same("spelled", i);
    }

    private void changed(String change) throws ReflectiveOperationException {
        begin();
        ask(change);
        for (int what = 0; what <= 6; what++) ask("count", what);
        int length = model.spelled(-1);
        for (int i = -1; i <= length; i++) ask("spelled", i);
        for (int w = 0; w < SIDES; w++) ask("rank", w, (1 << posts) - 1);
        ask("undo");
        for (int what = 0; what <= 6; what++) ask("count", what);
    }

    /** A question, which may be put to an object made anew. */
    private void same(String name, int... told) throws ReflectiveOperationException {
        if (made == MOST_CALLS) begin();
        ask(name, told);
    }

    private void ask(String name, int... told) throws ReflectiveOperationException {
        made++;
        if (made > MOST_CALLS) throw new IllegalStateException("too many calls");
        Class<?>[] types = new Class<?>[told.length];
        Arrays.fill(types, int.class);
        Object[] boxed = Arrays.stream(told).boxed().toArray();
        Method asked = RoadLinks.class.getMethod(name, types);
        Method known = NaiveRoadLinks.class.getDeclaredMethod(name, types);
        long got = ((Number) asked.invoke(real, boxed)).longValue();
        long want = ((Number) known.invoke(model, boxed)).longValue();
        if (got == want) TALLY.due("", got, want);
        else TALLY.due(model.spelling() + ": " + name + Arrays.toString(told), got, want);
    }
}
