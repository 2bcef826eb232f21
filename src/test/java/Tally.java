/** Counts the answers that are as due and tells those that are not. */
final class Tally {
    private final String name;
    private int passed = 0;
    private int failed = 0;

    Tally(String name) {
        this.name = name;
    }

    void due(String call, long got, long want) {
        if (got == want) {
            passed++;
            return;
        }
        failed++;
        System.out.println(name + ": " + call + " answered " + got + ", due is " + want);
    }

    void dueText(String what, String got, String want) {
        if (got.equals(want)) {
            passed++;
            return;
        }
        failed++;
        System.out.println(name + ": " + what + " is \"" + got + "\", due is \"" + want + "\"");
    }

    void isSo(String what, boolean so) {
        due(what, so ? 1 : 0, 1);
    }

    int failed() {
        return failed;
    }

    void end() {
        System.out.println(name + ": " + passed + " passed, " + failed + " failed");
        if (failed != 0 || passed == 0) System.exit(1);
    }
}
