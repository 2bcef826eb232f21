import java.lang.reflect.InvocationTargetException;
import java.lang.reflect.Method;
import java.util.HashMap;
import java.util.Map;

/**
 * Calls on one object, told as texts with the answer that is due: "road 0 1 1 = 0". In them min and max are the
 * least and the greatest int, least is the least long; "FEED to 0 = 4" feeds the bytes of a text, "TEXT to 0 = 1"
 * reads it then, "SPELLED = posts 1" takes all bytes that are spelled.
 */
final class Calls {
    /** Nothing is promised about later calls, so no test may lean on them. */
    private static final int MOST_CALLS = 512;
    private static final Map<String, Method> FACE = face();

    private final Tally tally;
    private final String about;
    private final RoadLinks object = new RoadLinks();
    private int made = 0;

    Calls(Tally tally, String about) {
        this.tally = tally;
        this.about = about;
    }

    private static Map<String, Method> face() {
        Map<String, Method> face = new HashMap<>();
        for (Method method : RoadLinks.class.getDeclaredMethods()) face.put(method.getName(), method);
        return face;
    }

    Calls due(String... lines) {
        for (String line : lines) dueLine(line);
        return this;
    }

    private void dueLine(String line) {
        int sign = line.lastIndexOf(" = ");
        String call = line.substring(0, sign);
        String want = line.substring(sign + 3);
        if (call.equals("SPELLED")) tally.dueText(about + ": SPELLED", spelled(), want);
        else tally.due(about + ": " + call, answer(call), number(want));
    }

    long answer(String call) {
        if (call.startsWith("FEED ")) return fed(call.substring(5));
        if (call.startsWith("TEXT ")) {
            fed(call.substring(5));
            return ask("read");
        }
        String[] words = call.split(" ");
        Integer[] told = new Integer[words.length - 1];
        for (int i = 0; i < told.length; i++) told[i] = (int) number(words[i + 1]);
        return ask(words[0], (Object[]) told);
    }

    private static long number(String word) {
        switch (word) {
            case "min": return Integer.MIN_VALUE;
            case "max": return Integer.MAX_VALUE;
            case "least": return Long.MIN_VALUE;
            default: return Long.parseLong(word);
        }
    }

    private long ask(String name, Object... told) {
        made++;
        if (made > MOST_CALLS) throw new IllegalStateException(about + ": too many calls");
        try {
            return ((Number) FACE.get(name).invoke(object, told)).longValue();
        } catch (InvocationTargetException thrown) {
            throw new IllegalStateException(about + ": " + name + " threw " + thrown.getCause());
        } catch (IllegalAccessException closed) {
            throw new IllegalStateException(closed);
        }
    }

    private long fed(String text) {
        long bytes = ask("count", 4);
        for (int i = 0; i < text.length(); i++) bytes = ask("feed", (int) text.charAt(i));
        return bytes;
    }

    private String spelled() {
        StringBuilder text = new StringBuilder();
        long length = ask("spelled", -1);
        for (int i = 0; i < length; i++) text.append((char) ask("spelled", i));
        return text.toString();
    }

    /** All that can be seen of the object: its table, rows, tape (by what reading it does) and image. */
    String seen() {
        StringBuilder all = new StringBuilder(spelled());
        for (int what = 0; what <= 6; what++) all.append(" ").append(ask("count", what));
        for (int r = 0; r < 3; r++) all.append(" row").append(row(r));
        all.append(" read ").append(ask("read")).append(" ").append(spelled());
        all.append(" undo ").append(ask("undo")).append(" ").append(spelled());
        return all.toString();
    }

    private String row(int r) {
        StringBuilder row = new StringBuilder();
        for (int i = 0; i < 40; i++) {
            long value = ask("get", r, i);
            if (value == Long.MIN_VALUE) break;
            row.append(" ").append(value);
        }
        return row.append(" held ").append(ask("lose", r)).toString();
    }
}
