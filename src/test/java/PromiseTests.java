/** Each promise of the document by name: ordinary inputs, the edges it names, and wrong inputs. */
public final class PromiseTests {
    private static final int LOW = Integer.MIN_VALUE;
    private static final int HIGH = Integer.MAX_VALUE;

    private final Due due = new Due("promises");

    public static void main(String[] args) {
        PromiseTests tests = new PromiseTests();
        tests.constants();
        tests.newObject();
        tests.rays();
        tests.costs();
        tests.share();
        tests.shareOf();
        tests.trip();
        tests.tripOf();
        tests.drop();
        tests.clear();
        tests.way();
        tests.late();
        tests.worst();
        tests.mean();
        tests.missed();
        tests.finds();
        tests.leastMean();
        tests.meanTrip();
        tests.leastWorst();
        tests.worstTrip();
        tests.within();
        tests.take();
        tests.both();
        tests.end();
        tests.told();
        tests.due.close();
    }

    private void is(int promise, String what, int got, int want) {
        due.is("promise " + promise + ", " + what, got, want);
    }

    /** All that told and the counts say at once, to see that a refused call changed nothing. */
    private static String stateOf(LineSearch x) {
        StringBuilder state = new StringBuilder();
        for (int w = 0; w < 7; w++) state.append(x.told(w)).append(' ');
        for (int i = 0; i < 30; i++) state.append(x.tripOf(i, 0)).append(x.tripOf(i, 1)).append(' ');
        for (int ray = 0; ray < 3; ray++) for (int s = 1; s <= 8; s++) state.append(x.shareOf(ray, s)).append(' ');
        return state.toString();
    }

    private void unchanged(int promise, String before, LineSearch x) {
        due.holds(before.equals(stateOf(x)), "promise " + promise + ": a refused call changed something");
    }

    /** 2 rays of 3 steps, a step out 2, a step back 1, trips 0/1, 1/2, 0/3, 1/3. */
    private static LineSearch example() {
        LineSearch x = new LineSearch();
        x.rays(2, 3);
        x.costs(2, 1);
        x.trip(0, 1);
        x.trip(1, 2);
        x.trip(0, 3);
        x.trip(1, 3);
        return x;
    }

    private void constants() {
        is(1, "NONE", LineSearch.NONE, -6);
        is(1, "UNKNOWN", LineSearch.UNKNOWN, -1);
        is(1, "OUTSIDE", LineSearch.OUTSIDE, -2);
        is(1, "STATE", LineSearch.STATE, -3);
        is(1, "FULL", LineSearch.FULL, -4);
        is(1, "NO", LineSearch.NO, -5);
    }

    private void newObject() {
        LineSearch x = new LineSearch();
        int[] want = {2, 5, 1, 1, 0, 10, 0};
        for (int w = 0; w < want.length; w++) is(1, "told(" + w + ")", x.told(w), want[w]);
        for (int ray = 0; ray < 2; ray++) for (int s = 1; s <= 5; s++) is(1, "shareOf", x.shareOf(ray, s), 1);
        is(1, "shareOf(2, 1)", x.shareOf(2, 1), -1);
        is(1, "shareOf(0, 6)", x.shareOf(0, 6), -1);
        is(1, "tripOf(0, 0)", x.tripOf(0, 0), -1);
        is(1, "end()", x.end(), 0);
        is(1, "missed(-1)", x.missed(-1), 10);
    }

    private void rays() {
        LineSearch x = new LineSearch();
        for (int m = 2; m <= 3; m++) for (int s = 1; s <= 8; s++) is(2, "rays(" + m + ", " + s + ")", x.rays(m, s), m * s);
        x.costs(4, 7);
        x.share(2, 8, 50);
        x.share(0, 1, 0);
        x.trip(1, 8);
        String before = stateOf(x);
        int[][] wrong = {{1, 5}, {4, 5}, {0, 5}, {-2, 5}, {2, 0}, {2, 9}, {3, -1}, {LOW, 1}, {HIGH, 1}, {2, LOW}, {2, HIGH}};
        for (int[] w : wrong) is(2, "rays(" + w[0] + ", " + w[1] + ")", x.rays(w[0], w[1]), -2);
        unchanged(2, before, x);
        is(2, "rays(3, 8)", x.rays(3, 8), 24);
        is(2, "told(2)", x.told(2), 4);
        is(2, "told(3)", x.told(3), 7);
        is(2, "told(4)", x.told(4), 0);
        is(2, "told(5)", x.told(5), 24);
        is(2, "shareOf(2, 8)", x.shareOf(2, 8), 1);
        is(2, "shareOf(0, 1)", x.shareOf(0, 1), 1);
    }

    private void costs() {
        LineSearch x = example();
        is(3, "costs(9, 1)", x.costs(9, 1), 1);
        is(3, "costs(1, 9)", x.costs(1, 9), 1);
        is(3, "costs(3, 5)", x.costs(3, 5), 1);
        is(3, "told(2)", x.told(2), 3);
        is(3, "told(3)", x.told(3), 5);
        is(3, "told(4), TRIPS stay", x.told(4), 4);
        is(3, "way(1, 3)", x.way(1, 3), 8 * 6 + 9);
        String before = stateOf(x);
        int[][] wrong = {{0, 1}, {1, 0}, {10, 1}, {1, 10}, {-1, 1}, {1, -1}, {LOW, 1}, {1, HIGH}};
        for (int[] w : wrong) is(3, "costs(" + w[0] + ", " + w[1] + ")", x.costs(w[0], w[1]), -2);
        unchanged(3, before, x);
    }

    private void share() {
        LineSearch x = new LineSearch();
        is(4, "share(1, 5, 100)", x.share(1, 5, 100), 1);
        is(4, "share(1, 5, 0)", x.share(1, 5, 0), 100);
        is(4, "share(1, 5, 7)", x.share(1, 5, 7), 0);
        is(4, "share(1, 5, 7) again", x.share(1, 5, 7), 7);
        String before = stateOf(x);
        is(4, "share(0, 1, -1)", x.share(0, 1, -1), -2);
        is(4, "share(0, 1, 101)", x.share(0, 1, 101), -2);
        is(4, "share(0, 1, HIGH)", x.share(0, 1, HIGH), -2);
        int[][] unknown = {{-1, 1}, {2, 1}, {0, 0}, {0, 6}, {0, -1}, {LOW, 1}, {HIGH, 1}, {0, LOW}, {0, HIGH}};
        for (int[] p : unknown) {
            is(4, "share(" + p[0] + ", " + p[1] + ", 1)", x.share(p[0], p[1], 1), -1);
            is(4, "UNKNOWN goes ahead of OUTSIDE", x.share(p[0], p[1], 101), -1);
        }
        unchanged(4, before, x);
    }

    private void shareOf() {
        LineSearch x = new LineSearch();
        x.rays(3, 8);
        for (int ray = 0; ray < 3; ray++) for (int s = 1; s <= 8; s++) x.share(ray, s, 10 * ray + s);
        for (int ray = 0; ray < 3; ray++) for (int s = 1; s <= 8; s++) is(5, "shareOf", x.shareOf(ray, s), 10 * ray + s);
        int[][] unknown = {{-1, 1}, {3, 1}, {0, 0}, {0, 9}, {HIGH, HIGH}, {LOW, LOW}, {0, HIGH}, {1, -8}};
        for (int[] p : unknown) is(5, "shareOf(" + p[0] + ", " + p[1] + ")", x.shareOf(p[0], p[1]), -1);
    }

    private void trip() {
        LineSearch x = new LineSearch();
        int[][] unknown = {{-1, 1}, {2, 1}, {0, 0}, {0, 6}, {LOW, 1}, {HIGH, 1}, {0, LOW}, {0, HIGH}};
        for (int[] p : unknown) is(6, "trip(" + p[0] + ", " + p[1] + ")", x.trip(p[0], p[1]), -1);
        is(6, "told(4)", x.told(4), 0);
        for (int i = 0; i < 30; i++) is(6, "a trip", x.trip(i % 2, 1 + i % 5), i);
        String before = stateOf(x);
        is(6, "trip(0, 1), full", x.trip(0, 1), -4);
        is(6, "UNKNOWN goes ahead of FULL", x.trip(2, 1), -1);
        unchanged(6, before, x);
        x.drop();
        is(6, "trip(1, 5), one went", x.trip(1, 5), 29);
    }

    private void tripOf() {
        LineSearch x = example();
        int[][] want = {{0, 1, 0}, {1, 2, 3}, {0, 3, 9}, {1, 3, 18}};
        for (int i = 0; i < 4; i++) for (int w = 0; w < 3; w++) is(7, "tripOf(" + i + ", " + w + ")", x.tripOf(i, w), want[i][w]);
        for (int i : new int[] {-1, 4, 30, LOW, HIGH}) {
            is(7, "tripOf(" + i + ", 0)", x.tripOf(i, 0), -1);
            is(7, "UNKNOWN goes ahead of OUTSIDE", x.tripOf(i, 3), -1);
        }
        for (int w : new int[] {-1, 3, LOW, HIGH}) is(7, "tripOf(0, " + w + ")", x.tripOf(0, w), -2);
    }

    private void drop() {
        LineSearch x = example();
        is(8, "drop", x.drop(), 3);
        is(8, "tripOf(3, 0)", x.tripOf(3, 0), -1);
        is(8, "tripOf(2, 1)", x.tripOf(2, 1), 3);
        is(8, "told(6)", x.told(6), 18);
        is(8, "drop", x.drop(), 2);
        is(8, "drop", x.drop(), 1);
        is(8, "drop", x.drop(), 0);
        is(8, "drop", x.drop(), -1);
        is(8, "drop", x.drop(), -1);
        is(8, "trip", x.trip(1, 1), 0);
    }

    private void clear() {
        LineSearch x = example();
        x.share(0, 1, 9);
        is(9, "clear", x.clear(), 4);
        is(9, "clear", x.clear(), 0);
        is(9, "way(0, 1)", x.way(0, 1), -6);
        is(9, "shareOf(0, 1)", x.shareOf(0, 1), 9);
        is(9, "told(2)", x.told(2), 2);
    }

    private void way() {
        LineSearch x = example();
        int[][] want = {{2, 13, 15}, {5, 7, 24}};
        for (int r = 0; r < 2; r++) for (int s = 1; s <= 3; s++) is(10, "way(" + r + ", " + s + ")", x.way(r, s), want[r][s - 1]);
        x.drop();
        is(10, "way(1, 3), none", x.way(1, 3), -6);
        int[][] unknown = {{-1, 1}, {2, 1}, {0, 0}, {0, 4}, {LOW, 1}, {HIGH, HIGH}};
        for (int[] p : unknown) is(10, "way(" + p[0] + ", " + p[1] + ")", x.way(p[0], p[1]), -1);
    }

    private void late() {
        LineSearch x = example();
        int[][] want = {{1, 1}, {13, 4}, {5, 2}, {5, 2}, {7, 4}, {4, 1}};
        for (int i = 0; i < 6; i++) {
            for (int w = 0; w < 2; w++) is(11, "late", x.late(i / 3, 1 + i % 3, w), want[i][w]);
        }
        for (int w : new int[] {-1, 2, LOW, HIGH}) {
            is(11, "late(0, 1, " + w + ")", x.late(0, 1, w), -2);
            is(11, "UNKNOWN goes ahead of OUTSIDE", x.late(0, 4, w), -1);
        }
        x.drop();
        is(11, "late(1, 3, 0), none", x.late(1, 3, 0), -6);
        is(11, "late(1, 3, 1), none", x.late(1, 3, 1), -6);
        is(11, "late(1, 3, 2): OUTSIDE, though there is none", x.late(1, 3, 2), -2);
        is(11, "late(2, 1, 0)", x.late(2, 1, 0), -1);
    }

    private void worst() {
        LineSearch x = example();
        int[] want = {4, 1, 1, 3};
        for (int w = 0; w < 4; w++) is(12, "worst(" + w + ")", x.worst(w), want[w]);
        for (int w : new int[] {-1, 4, LOW, HIGH}) is(12, "worst(" + w + ")", x.worst(w), -2);
        x.drop();
        is(12, "worst(0), one missed", x.worst(0), -3);
        is(12, "OUTSIDE goes ahead of STATE", x.worst(4), -2);
        LineSearch y = new LineSearch();
        y.rays(3, 3);
        y.trip(2, 1);
        y.trip(1, 2);
        y.trip(2, 3);
        y.trip(1, 3);
        y.trip(0, 3);
        // 0/1 waits for 9 steps out and back: 18 + 1 by 1
        is(12, "worst(0)", y.worst(0), 19);
        is(12, "worst(2)", y.worst(2), 0);
        is(12, "worst(3)", y.worst(3), 1);
        y.rays(2, 3);
        y.trip(0, 1);
        y.trip(1, 2);
        y.trip(0, 2);
        y.trip(1, 3);
        y.trip(0, 3);
        // ways 1, 8, 19; 3, 4, 13: 19 by 3 at 0/3
        is(12, "worst(0)", y.worst(0), 19);
        is(12, "worst(1)", y.worst(1), 3);
        y.rays(2, 2);
        y.trip(1, 1);
        y.trip(0, 2);
        y.trip(1, 2);
        // ways 3, 4; 1, 8: 4 by 1 at 1/2
        is(12, "worst(2)", y.worst(2), 1);
        is(12, "worst(3)", y.worst(3), 2);
        y.rays(2, 2);
        y.trip(0, 1);
        y.trip(1, 1);
        y.trip(0, 2);
        y.trip(1, 2);
        // ways 1, 6; 3, 10: 3 by 1 twice, 5 by 1 at 1/2
        is(12, "worst(0)", y.worst(0), 5);
        y.clear();
        y.costs(2, 2);
        y.trip(0, 1);
        y.trip(0, 1);
        y.trip(1, 2);
        y.trip(0, 2);
        // ways 2, 20; 10, 12: 5 by 1 at 0/2 and at 1/1
        is(12, "worst(0), of several", y.worst(0), 5);
        is(12, "worst(2), of several", y.worst(2), 0);
        is(12, "worst(3), of several", y.worst(3), 2);
    }

    private void mean() {
        LineSearch x = example();
        is(13, "mean", x.mean(), 2 + 13 + 15 + 5 + 7 + 24);
        x.share(0, 2, 100);
        x.share(1, 3, 0);
        is(13, "mean by shares", x.mean(), 2 + 1300 + 15 + 5 + 7);
        x.drop();
        is(13, "mean, a place of share 0 missed", x.mean(), -3);
        x.rays(3, 8);
        x.costs(9, 9);
        for (int ray = 0; ray < 3; ray++) for (int s = 1; s <= 8; s++) x.share(ray, s, 100);
        for (int i = 0; i < 27; i++) x.trip(0, 8);
        x.trip(1, 8);
        is(13, "mean, a ray missed", x.mean(), -3);
        x.trip(2, 8);
        is(13, "mean, the dearest", x.mean(), 100 * (3 * 9 * 36 + 8 * 144 * (27 + 28)));
    }

    private void missed() {
        LineSearch x = new LineSearch();
        x.rays(3, 3);
        x.trip(1, 2);
        is(14, "missed(-1)", x.missed(-1), 7);
        int[] want = {1, 2, 3, 13, 21, 22, 23, -6};
        for (int i = 0; i < want.length; i++) is(14, "missed(" + i + ")", x.missed(i), want[i]);
        for (int i : new int[] {-2, LOW, HIGH}) is(14, "missed(" + i + ")", x.missed(i), -6);
        x.trip(1, 3);
        x.trip(0, 3);
        x.trip(2, 3);
        is(14, "missed(-1), all come to", x.missed(-1), 0);
        is(14, "missed(0), all come to", x.missed(0), -6);
    }

    private void finds() {
        LineSearch x = example();
        int[] want = {1, 11, 2, 13};
        for (int i = 0; i < 4; i++) is(15, "finds(" + i + ")", x.finds(i), want[i]);
        x.trip(1, 1);
        is(15, "finds(4), nothing new", x.finds(4), -6);
        for (int i : new int[] {-1, 5, 30, LOW, HIGH}) is(15, "finds(" + i + ")", x.finds(i), -1);
    }

    private void leastMean() {
        LineSearch x = new LineSearch();
        is(16, "leastMean", x.leastMean(), 80);
        x.share(1, 1, 100);
        // 1/5 ahead of 0/5: 129 for one who knew, and 5 shares wait 10; 1/1, 0/5, 1/5 would be 187
        is(16, "leastMean, the share changed", x.leastMean(), 179);
        x.trip(0, 3);
        is(16, "leastMean, whatever THE PLAN is", x.leastMean(), 179);
        x.costs(2, 2);
        is(16, "leastMean, the costs changed", x.leastMean(), 358);
        x.rays(2, 5);
        is(16, "leastMean, laid anew", x.leastMean(), 160);
        x.rays(2, 1);
        x.share(0, 1, 0);
        x.share(1, 1, 0);
        is(16, "leastMean, no shares", x.leastMean(), 0);
        x.rays(3, 8);
        x.costs(9, 9);
        for (int ray = 0; ray < 3; ray++) for (int s = 1; s <= 8; s++) x.share(ray, s, 100);
        is(16, "leastMean, the dearest", x.leastMean(), 100 * (3 * 9 * 36 + 8 * 144 * 3));
    }

    private void meanTrip() {
        LineSearch x = new LineSearch();
        is(17, "meanTrip(0)", x.meanTrip(0), 5);
        is(17, "meanTrip(1)", x.meanTrip(1), 15);
        is(17, "meanTrip(2)", x.meanTrip(2), -6);
        for (int i : new int[] {-1, -6, 30, LOW, HIGH}) is(17, "meanTrip(" + i + ")", x.meanTrip(i), -6);
        x.share(1, 1, 100);
        int[] want = {15, 5, -6};
        for (int i = 0; i < want.length; i++) is(17, "meanTrip(" + i + "), the share changed", x.meanTrip(i), want[i]);
        x.rays(3, 8);
        for (int ray = 0; ray < 3; ray++) for (int s = 1; s <= 8; s++) x.share(ray, s, 0);
        for (int i = 0; i < 24; i++) is(17, "meanTrip(" + i + "), all alike", x.meanTrip(i), 10 * (i / 8) + 1 + i % 8);
        is(17, "meanTrip(24)", x.meanTrip(24), -6);
        is(17, "told(4), THE PLAN is as it was", x.told(4), 0);
    }

    private void leastWorst() {
        LineSearch x = new LineSearch();
        is(18, "leastWorst(0)", x.leastWorst(0), 27);
        is(18, "leastWorst(1)", x.leastWorst(1), 5);
        for (int w : new int[] {-1, 2, LOW, HIGH}) is(18, "leastWorst(" + w + ")", x.leastWorst(w), -2);
        x.share(0, 1, 0);
        is(18, "leastWorst(0), whatever the shares", x.leastWorst(0), 27);
        x.costs(2, 1);
        is(18, "leastWorst(0), back for less", x.leastWorst(0), 43);
        is(18, "leastWorst(1), back for less", x.leastWorst(1), 10);
        x.costs(1, 1);
        x.rays(2, 8);
        is(18, "leastWorst(0), 8 steps", x.leastWorst(0), 6);
        is(18, "leastWorst(1), 8 steps", x.leastWorst(1), 1);
        x.rays(3, 1);
        is(18, "leastWorst(0), 3 rays of 1", x.leastWorst(0), 5);
        is(18, "leastWorst(1), 3 rays of 1", x.leastWorst(1), 1);
    }

    private void worstTrip() {
        LineSearch x = new LineSearch();
        int[] want = {2, 14, 5, 15, -6};
        for (int i = 0; i < want.length; i++) is(19, "worstTrip(" + i + ")", x.worstTrip(i), want[i]);
        for (int i : new int[] {-1, -6, 30, LOW, HIGH}) is(19, "worstTrip(" + i + ")", x.worstTrip(i), -6);
        x.rays(2, 8);
        int[] next = {1, 14, 7, 18, 8, -6};
        for (int i = 0; i < next.length; i++) is(19, "worstTrip(" + i + "), laid anew", x.worstTrip(i), next[i]);
        is(19, "meanTrip(0) in between", x.meanTrip(0), 8);
        is(19, "worstTrip(1) again", x.worstTrip(1), 14);
    }

    private void within() {
        LineSearch x = new LineSearch();
        is(20, "within(27, 5)", x.within(27, 5), 1);
        is(20, "within(54, 10)", x.within(54, 10), 1);
        is(20, "within(9999, 1852)", x.within(9999, 1852), 0);
        is(20, "within(9999, 1851)", x.within(9999, 1851), 1);
        is(20, "within(10000, 1)", x.within(10000, 1), 1);
        is(20, "within(1, 10000)", x.within(1, 10000), 0);
        is(20, "within(10000, 10000)", x.within(10000, 10000), 0);
        int[][] wrong = {{0, 1}, {1, 0}, {10001, 1}, {1, 10001}, {-1, 1}, {LOW, 1}, {1, HIGH}, {HIGH, HIGH}};
        for (int[] w : wrong) is(20, "within(" + w[0] + ", " + w[1] + ")", x.within(w[0], w[1]), -2);
        x.costs(9, 9);
        x.rays(3, 8);
        is(20, "within(10000, 1), the dearest", x.within(10000, 1), 1);
    }

    private void take() {
        LineSearch x = example();
        String before = stateOf(x);
        for (int w : new int[] {-1, 2, LOW, HIGH}) is(21, "take(" + w + ")", x.take(w), -2);
        unchanged(21, before, x);
        x = new LineSearch();
        x.trip(1, 1);
        is(21, "take(0)", x.take(0), 2);
        is(21, "tripOf(0, 1)", x.tripOf(0, 1), 5);
        is(21, "tripOf(1, 0)", x.tripOf(1, 0), 1);
        is(21, "mean", x.mean(), 80);
        is(21, "take(1)", x.take(1), 4);
        is(21, "tripOf(0, 1)", x.tripOf(0, 1), 2);
        is(21, "tripOf(3, 2)", x.tripOf(3, 2), 22);
        is(21, "trip behind it", x.trip(0, 1), 4);
        is(21, "worstTrip(4), the best stays as it was", x.worstTrip(4), -6);
        x.drop();
        x.drop();
        is(21, "worstTrip(3), the best stays as it was", x.worstTrip(3), 15);
    }

    private void both() {
        LineSearch x = example();
        // 0: out to 0/1, back at 3, out to 0/3, back at 12; 1: out to 1/2, back at 6, out to 1/3, back at 15
        int[][] want = {{2, 3, 0, 1, 1}, {7, 12, 0, 7, 4}, {9, 12, 0, 3, 2}, {2, 6, 1, 1, 1}, {4, 6, 1, 1, 1}, {12, 15, 1, 2, 1}};
        for (int i = 0; i < 6; i++) {
            for (int w = 0; w < 5; w++) is(22, "both(" + i / 3 + ", " + (1 + i % 3) + ", " + w + ")", x.both(i / 3, 1 + i % 3, w), want[i][w]);
        }
        for (int w : new int[] {-1, 5, LOW, HIGH}) {
            is(22, "both(0, 1, " + w + ")", x.both(0, 1, w), -2);
            is(22, "UNKNOWN goes ahead of OUTSIDE", x.both(0, 4, w), -1);
        }
        x.drop();
        for (int w = 0; w < 5; w++) is(22, "both(1, 3, " + w + "), none", x.both(1, 3, w), -6);
        is(22, "both(1, 3, 5): OUTSIDE, though there is none", x.both(1, 3, 5), -2);
        x.clear();
        x.costs(1, 1);
        x.trip(0, 1);
        x.trip(1, 1);
        x.trip(1, 3);
        x.trip(1, 2);
        is(22, "both at once: MET", x.both(1, 2, 0), 4);
        is(22, "both at once: the first", x.both(1, 2, 2), 0);
        is(22, "both at once: TOLD by the first", x.both(1, 2, 1), 8);
        x.clear();
        x.trip(0, 3);
        x.trip(0, 1);
        x.trip(1, 1);
        x.trip(1, 3);
        is(22, "the second is first there", x.both(1, 1, 2), 1);
        is(22, "the second is first there: MET", x.both(1, 1, 0), 3);
        is(22, "the second is first there: TOLD", x.both(1, 1, 1), 8);
        is(22, "both at once at 0/1", x.both(0, 1, 2), 0);
        is(22, "both at once at 0/1: TOLD by the first", x.both(0, 1, 1), 6);
    }

    private void end() {
        LineSearch x = new LineSearch();
        is(23, "end, no TRIPS", x.end(), 0);
        x.costs(2, 3);
        x.trip(0, 4);
        is(23, "end", x.end(), 20);
        x.trip(1, 1);
        is(23, "end", x.end(), 20);
        x.trip(1, 1);
        is(23, "end", x.end(), 25);
        x.trip(1, 5);
        is(23, "end", x.end(), 30);
        x.drop();
        is(23, "end", x.end(), 25);
    }

    private void told() {
        LineSearch x = example();
        x.share(1, 2, 40);
        int[] want = {2, 3, 2, 1, 4, 45, 27};
        for (int w = 0; w < 7; w++) is(24, "told(" + w + ")", x.told(w), want[w]);
        for (int w : new int[] {-1, 7, LOW, HIGH}) is(24, "told(" + w + ")", x.told(w), -2);
        x.rays(3, 8);
        is(24, "told(5), laid anew", x.told(5), 24);
        is(24, "told(6), laid anew", x.told(6), 0);
    }
}
