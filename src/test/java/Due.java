/** Counts calls whose answer is not the one that is due, and ends a test with them. */
final class Due {
    private final String test;
    private long passed = 0;
    private long failed = 0;

    Due(String test) {
        this.test = test;
    }

    void is(String call, long got, long due) {
        holds(got == due, call + " answered " + got + ", due is " + due);
    }

    void holds(boolean fact, String otherwise) {
        if (fact) {
            passed++;
            return;
        }
        failed++;
        if (failed <= 20) System.out.println(test + ": " + otherwise);
    }

    void close() {
        System.out.println(test + ": " + passed + " answers as due, " + failed + " not");
        if (failed != 0 || passed == 0) System.exit(1);
    }
}
