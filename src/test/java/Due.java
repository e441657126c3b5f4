/** Counts and prints the answers that aren't due; the closing line and the exit code tell the rest. */
final class Due {
    private int passed = 0;
    private int failed = 0;
    private String about = "";

    void about(String what) {
        about = what;
    }

    void is(String call, long got, long want) {
        if (got == want) {
            passed++;
        } else {
            failed++;
            System.out.println(about + ": " + call + " answered " + got + ", due is " + want);
        }
    }

    void holds(String what, boolean isSo) {
        is(what, isSo ? 1 : 0, 1);
    }

    void end() {
        System.out.println(passed + " passed, " + failed + " failed");
        if (failed != 0 || passed == 0) System.exit(1);
    }
}
