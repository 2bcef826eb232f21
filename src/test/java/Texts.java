/** Texts put on the tape of an object and taken from what it spells. */
final class Texts {
    private Texts() {
    }

    static void feed(RoadLinks x, String text) {
        for (int i = 0; i < text.length(); i++) x.feed(text.charAt(i));
    }

    static int read(RoadLinks x, String text) {
        feed(x, text);
        return x.read();
    }

    static RoadLinks made(String... texts) {
        RoadLinks x = new RoadLinks();
        for (String text : texts) {
            if (read(x, text) < 0) throw new IllegalStateException("refused: " + text);
        }
        return x;
    }

    static String spelled(RoadLinks x) {
        StringBuilder text = new StringBuilder();
        int length = x.spelled(-1);
        for (int i = 0; i < length; i++) text.append((char) x.spelled(i));
        return text.toString();
    }
}
