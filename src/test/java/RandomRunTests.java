import java.util.Random;

/** Runs of random calls, right and wrong, whose every answer is held against NaiveSearch. */
public final class RandomRunTests {
    private static final int[] ODD = {
        Integer.MIN_VALUE, Integer.MIN_VALUE + 1, -1000000, -11, -2, -1, 0, 9, 10, 11, 30, 31, 101, 10001,
        65536, 1 << 30, Integer.MAX_VALUE - 1, Integer.MAX_VALUE
    };

    /** What an object answers to later calls is free. */
    private static final int MOST_CALLS = 512;
    private static final int ASK_ALL = 456;

    private final Due due;
    private final Random random;
    private final LineSearch real = new LineSearch();
    private final NaiveSearch naive = new NaiveSearch();
    private final StringBuilder run = new StringBuilder();
    private final int mostSteps;
    private int made = 0;

    private RandomRunTests(Due due, long seed, int mostSteps) {
        this.due = due;
        this.random = new Random(seed);
        this.mostSteps = mostSteps;
    }

    /** A number from low to high, now and then one that is out of all bounds. */
    private int some(int low, int high) {
        if (random.nextInt(40) == 0) return ODD[random.nextInt(ODD.length)];
        return low + random.nextInt(high - low + 1);
    }

    private void call(int kind) {
        int a;
        int b;
        int c;
        switch (kind) {
            case 0: a = some(2, 3); b = some(1, mostSteps); is("rays", real.rays(a, b), naive.rays(a, b), a, b); break;
            case 1: a = some(1, 9); b = some(1, 9); is("costs", real.costs(a, b), naive.costs(a, b), a, b); break;
            case 2: a = some(0, 2); b = some(1, mostSteps); c = some(0, 100) * random.nextInt(2);
                is("share", real.share(a, b, c), naive.share(a, b, c), a, b, c); break;
            case 3: a = some(0, 2); b = some(1, mostSteps); is("shareOf", real.shareOf(a, b), naive.shareOf(a, b), a, b); break;
            case 4: case 5: case 6: case 7:
                a = some(0, 2); b = some(1, mostSteps); is("trip", real.trip(a, b), naive.trip(a, b), a, b); break;
            case 8: a = some(-1, 30); b = some(-1, 3); is("tripOf", real.tripOf(a, b), naive.tripOf(a, b), a, b); break;
            case 9: is("drop", real.drop(), naive.drop()); break;
            case 10: if (random.nextInt(4) == 0) is("clear", real.clear(), naive.clear()); break;
            case 11: a = some(-1, 3); b = some(0, mostSteps); is("way", real.way(a, b), naive.way(a, b), a, b); break;
            case 12: a = some(-1, 3); b = some(0, mostSteps); c = some(-1, 2);
                is("late", real.late(a, b, c), naive.late(a, b, c), a, b, c); break;
            case 13: a = some(-1, 4); is("worst", real.worst(a), naive.worst(a), a); break;
            case 14: is("mean", real.mean(), naive.mean()); break;
            case 15: a = some(-2, 24); is("missed", real.missed(a), naive.missed(a), a); break;
            case 16: a = some(-1, 30); is("finds", real.finds(a), naive.finds(a), a); break;
            case 17: is("leastMean", real.leastMean(), naive.leastMean()); break;
            case 18: a = some(-1, 24); is("meanTrip", real.meanTrip(a), naive.meanTrip(a), a); break;
            case 19: a = some(-1, 2); is("leastWorst", real.leastWorst(a), naive.leastWorst(a), a); break;
            case 20: a = some(-1, 24); is("worstTrip", real.worstTrip(a), naive.worstTrip(a), a); break;
            case 21: a = some(0, random.nextBoolean() ? 30 : 10001); b = some(0, random.nextBoolean() ? 4 : 10001);
                is("within", real.within(a, b), naive.within(a, b), a, b); break;
            case 22: if (random.nextInt(3) == 0) { a = some(-1, 2); is("take", real.take(a), naive.take(a), a); } break;
            case 23: case 24: a = some(-1, 3); b = some(0, mostSteps); c = some(-1, 5);
                is("both", real.both(a, b, c), naive.both(a, b, c), a, b, c); break;
            case 25: is("end", real.end(), naive.end()); break;
            default: a = some(-1, 7); is("told", real.told(a), naive.told(a), a); break;
        }
    }

    private void is(String name, int got, int want, int... with) {
        StringBuilder call = new StringBuilder(name).append('(');
        for (int i = 0; i < with.length; i++) call.append(i == 0 ? "" : ", ").append(with[i]);
        call.append(')');
        made++;
        run.append(' ').append(call);
        due.is(got == want ? "" : "after" + run, got, want);
    }

    /** All that can be asked without changing anything: ASK_ALL calls. */
    private void askAll() {
        for (int ray = 0; ray < 3; ray++) {
            for (int steps = 1; steps <= 8; steps++) {
                is("shareOf", real.shareOf(ray, steps), naive.shareOf(ray, steps), ray, steps);
                is("way", real.way(ray, steps), naive.way(ray, steps), ray, steps);
                for (int w = 0; w < 2; w++) is("late", real.late(ray, steps, w), naive.late(ray, steps, w), ray, steps, w);
                for (int w = 0; w < 5; w++) is("both", real.both(ray, steps, w), naive.both(ray, steps, w), ray, steps, w);
            }
        }
        for (int i = -1; i <= 30; i++) {
            for (int w = 0; w < 3; w++) is("tripOf", real.tripOf(i, w), naive.tripOf(i, w), i, w);
            is("missed", real.missed(i), naive.missed(i), i);
            is("finds", real.finds(i), naive.finds(i), i);
            is("meanTrip", real.meanTrip(i), naive.meanTrip(i), i);
            is("worstTrip", real.worstTrip(i), naive.worstTrip(i), i);
        }
        for (int w = 0; w < 4; w++) is("worst", real.worst(w), naive.worst(w), w);
        for (int w = 0; w < 7; w++) is("told", real.told(w), naive.told(w), w);
        for (int w = 0; w < 2; w++) is("leastWorst", real.leastWorst(w), naive.leastWorst(w), w);
        is("mean", real.mean(), naive.mean());
        is("leastMean", real.leastMean(), naive.leastMean());
        is("end", real.end(), naive.end());
    }

    private void go(int calls) {
        int kinds = 27;
        // Each run leaves one kind of calls out, so that others pile up.
        int left = random.nextInt(kinds);
        while (made < calls) {
            int kind = random.nextInt(kinds);
            if (kind != left && (kind != 0 || random.nextInt(6) == 0)) call(kind);
        }
    }

    private void goAndAskAll() {
        go(MOST_CALLS - ASK_ALL);
        askAll();
        due.is("calls of a run", made, MOST_CALLS);
    }

    public static void main(String[] args) {
        Due due = new Due("random runs");
        for (int seed = 0; seed < 1000; seed++) {
            new RandomRunTests(due, seed, 5).go(MOST_CALLS);
            new RandomRunTests(due, 3000 + seed, 5).goAndAskAll();
        }
        for (int seed = 0; seed < 30; seed++) {
            new RandomRunTests(due, 7000 + seed, 8).go(300);
            new RandomRunTests(due, 8000 + seed, 8).goAndAskAll();
        }
        due.close();
    }
}
