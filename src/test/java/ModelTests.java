import java.lang.reflect.Method;
import java.util.ArrayList;
import java.util.List;

/** Long runs of calls on the class and on the naive model, answer by answer; the seeds are fixed. */
public final class ModelTests {
    // The name of a call, the kinds of its arguments and how often it comes.
    // p post, x set, w side, k number, v weight, o one or nought, h what, r row, n size, i place, b base, c letter
    private static final String[] CALLS = {
        "posts s 1", "road ppo 12", "isRoad pp 2", "targets x 4", "weigh pv 4", "add x 6", "change kx 4", "drop k 3",
        "set k 2", "rank wx 6", "free wx 4", "base wk 5", "circuit wk 5", "flat wk 3", "shut wx 4", "loops wo 4",
        "round wbp 6", "swap wbbp 10", "steps w 3", "less wyyy 6", "heaviest wo 5", "alike ww 5", "cut x 5", "reach x 4",
        "partners x 6", "turned - 1", "strict - 2", "spare k 3", "room k 3", "idle - 3", "small - 1", "row rn 2",
        "lose r 1", "put riz 3", "get ri 5", "copy ririn 5", "film rwxn 4", "judge rwx 5", "feed c 2", "wipe - 1",
        "read - 1", "spelled j 4", "image - 1", "undo - 1", "count h 4", "TEXT - 5"
    };
    private static final int MOST_CALLS = 512;
    private static final int RUNS = 600;
    private static final Tally TALLY = new Tally("model");

    private final RoadLinks real = new RoadLinks();
    private final NaiveRoadLinks model = new NaiveRoadLinks();
    private final int mostPosts;
    private long seed;
    private int side = 0;
    private int done = 0;

    private ModelTests(long seed, int mostPosts) {
        this.seed = seed * 7919 + 17;
        this.mostPosts = mostPosts;
    }

    public static void main(String[] args) throws ReflectiveOperationException {
        List<String[]> calls = spread();
        for (int run = 0; run < RUNS && TALLY.failed() < 20; run++) {
            new ModelTests(run, run % 4 == 0 ? 8 : 6).go(run, calls);
        }
        TALLY.end();
    }

    private static List<String[]> spread() {
        List<String[]> calls = new ArrayList<>();
        for (String line : CALLS) {
            String[] parts = line.split(" ");
            for (int i = 0; i < Integer.parseInt(parts[2]); i++) calls.add(parts);
        }
        return calls;
    }

    private int any(int below) {
        seed = seed * 6364136223846793005L + 1442695040888963407L;
        return (int) ((seed >>> 33) % below);
    }

    private void go(int run, List<String[]> calls) throws ReflectiveOperationException {
        int failedAhead = TALLY.failed();
        same(run, "posts", new int[] {1 + any(mostPosts)});
        for (int i = 0; i < 12; i++) same(run, any(3) == 0 ? "add" : "road", any(2) == 0 ? null : new int[0]);
        same(run, "targets", new int[] {argument('x')});
        while (done < MOST_CALLS && TALLY.failed() == failedAhead) {
            String[] parts = calls.get(any(calls.size()));
            if (parts[0].equals("TEXT")) text(run);
            else same(run, parts[0], arguments(parts[1]));
        }
    }

    private int[] arguments(String kinds) {
        if (kinds.equals("-")) return new int[0];
        int[] arguments = new int[kinds.length()];
        for (int i = 0; i < arguments.length; i++) arguments[i] = argument(kinds.charAt(i));
        return arguments;
    }

    private int argument(char kind) {
        if (any(40) == 0) return extreme();
        int n = model.count(0);
        switch (kind) {
            case 's': return any(4) == 0 ? any(11) - 1 : 1 + any(mostPosts);
            case 'p': return any(n) + (any(20) == 0 ? 1 : 0);
            case 'x': return any((1 << n) + (any(10) == 0 ? 2 : 0));
            case 'y': return any(1 << n) & any(1 << n) & any(1 << n);
            case 'w': return side = any(20) == 0 ? 4 : any(4);
            case 'k': return any(any(3) == 0 ? 40 : 5) - 1;
            case 'v': return any(104) - 2;
            case 'o': return any(20) == 0 ? 2 : any(2);
            case 'h': return any(8);
            case 'r': return any(20) == 0 ? 3 : any(3);
            case 'n': return any(any(3) == 0 ? 44 : 9) - 1;
            case 'i': return any(any(3) == 0 ? 42 : 6) - 1;
            case 'z': return any(4);
            case 'b': return any(6) == 0 ? any(1 << n) : model.someBase(side, any(100));
            case 'c': return any(98) + 30;
            case 'j': return any(60) - 1;
            default: throw new IllegalStateException("kind " + kind);
        }
    }

    private int extreme() {
        int[] extremes = {-1, -2, 9, 256, 1 << 16, Integer.MIN_VALUE, Integer.MAX_VALUE, Integer.MAX_VALUE - 1};
        return extremes[any(extremes.length)];
    }

    private void same(int run, String name, int[] given) throws ReflectiveOperationException {
        // Nothing is promised about later calls.
        if (done == MOST_CALLS) return;
        done++;
        int[] arguments = given;
        if (name.equals("road") && (given == null || given.length == 0)) arguments = new int[] {argument('p'), argument('p'), 1};
        if (name.equals("add") && (given == null || given.length == 0)) arguments = new int[] {argument('x')};
        StringBuilder call = new StringBuilder("run " + run + ": " + name + "(");
        Object[] boxed = new Object[arguments.length];
        Class<?>[] types = new Class<?>[arguments.length];
        for (int i = 0; i < boxed.length; i++) {
            boxed[i] = arguments[i];
            types[i] = int.class;
            call.append(i == 0 ? "" : ", ").append(arguments[i]);
        }
        Method asked = RoadLinks.class.getMethod(name, types);
        Method known = NaiveRoadLinks.class.getDeclaredMethod(name, types);
        long got = ((Number) asked.invoke(real, boxed)).longValue();
        long want = ((Number) known.invoke(model, boxed)).longValue();
        TALLY.due(call.append(")").toString(), got, want);
    }

    private void text(int run) throws ReflectiveOperationException {
        StringBuilder text = new StringBuilder();
        int statements = 1 + any(6);
        for (int i = 0; i < statements; i++) text.append(i == 0 ? "" : ";").append(statement());
        if (any(2) == 0) spoil(text);
        same(run, "wipe", new int[0]);
        for (int i = 0; i < text.length(); i++) same(run, "feed", new int[] {text.charAt(i)});
        same(run, "read", new int[0]);
        for (int what = 0; what < 7; what++) same(run, "count", new int[] {what});
    }

    private String statement() {
        int n = model.count(0);
        switch (any(12)) {
            case 0: return "posts " + (any(8) == 0 ? any(10) : 1 + any(mostPosts));
            case 1: return "block " + any(n) + " " + any(n + 1);
            case 2: case 3: return "to " + any(n + (any(4) == 0 ? 1 : 0));
            case 4: case 5: return "set" + posts(n, any(5));
            case 6: case 7: return "weigh " + any(n) + " " + any(100);
            case 8: return "weigh " + any(n + 1) + " 0" + any(10);
            default: return "road " + any(n) + " " + any(n);
        }
    }

    private String posts(int n, int many) {
        StringBuilder posts = new StringBuilder();
        for (int i = 0; i < many; i++) posts.append(" ").append(any(n + (any(12) == 0 ? 1 : 0)));
        return posts.toString();
    }

    private void spoil(StringBuilder text) {
        String signs = " ;0123abdeghiklmoprstwxz~A/:`{";
        int at = any(text.length());
        char sign = signs.charAt(any(signs.length()));
        switch (any(4)) {
            case 0: text.setCharAt(at, sign); break;
            case 1: text.insert(at, sign); break;
            case 2: text.deleteCharAt(at); break;
            default: text.setLength(at); break;
        }
    }
}
