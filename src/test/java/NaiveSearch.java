import java.util.ArrayList;
import java.util.Arrays;
import java.util.List;

/**
 * The document once more, as slowly and plainly as can be: walks are walked step by step, and the
 * bests are sought over every state and every time. The tests hold LineSearch against it.
 */
final class NaiveSearch {
    static final int NONE = -6, UNKNOWN = -1, OUTSIDE = -2, STATE = -3, FULL = -4;

    private int m = 2, reach = 5, out = 1, back = 1;
    private int[][] share = ones(2, 5);
    private final List<int[]> trips = new ArrayList<>();

    // [how far on ray 0][ray 1][ray 2][steps of whole trips so far], -1 where not sought yet
    private long[][][][] meanFrom, worstFrom;
    private List<int[]> meanPlan, worstPlan;

    private static int[][] ones(int m, int reach) {
        int[][] shares = new int[m][reach + 1];
        for (int[] row : shares) Arrays.fill(row, 1, reach + 1, 1);
        return shares;
    }

    private boolean place(int ray, int steps) {
        return ray >= 0 && ray < m && steps >= 1 && steps <= reach;
    }

    private void forget() {
        meanFrom = worstFrom = null;
        meanPlan = worstPlan = null;
    }

    int rays(int rays, int steps) {
        if (rays != 2 && rays != 3 || steps < 1 || steps > 8) return OUTSIDE;
        m = rays;
        reach = steps;
        share = ones(m, reach);
        trips.clear();
        forget();
        return m * reach;
    }

    int costs(int o, int b) {
        if (o < 1 || o > 9 || b < 1 || b > 9) return OUTSIDE;
        out = o;
        back = b;
        forget();
        return 1;
    }

    int share(int ray, int steps, int v) {
        if (!place(ray, steps)) return UNKNOWN;
        if (v < 0 || v > 100) return OUTSIDE;
        int was = share[ray][steps];
        share[ray][steps] = v;
        forget();
        return was;
    }

    int shareOf(int ray, int steps) {
        return place(ray, steps) ? share[ray][steps] : UNKNOWN;
    }

    int trip(int ray, int steps) {
        if (!place(ray, steps)) return UNKNOWN;
        if (trips.size() == 30) return FULL;
        trips.add(new int[] {ray, steps});
        return trips.size() - 1;
    }

    int tripOf(int i, int what) {
        if (i < 0 || i >= trips.size()) return UNKNOWN;
        if (what < 0 || what > 2) return OUTSIDE;
        if (what < 2) return trips.get(i)[what];
        return walk(trips.subList(0, i)).time;
    }

    int drop() {
        if (trips.isEmpty()) return UNKNOWN;
        trips.remove(trips.size() - 1);
        return trips.size();
    }

    int clear() {
        int had = trips.size();
        trips.clear();
        return had;
    }

    /** When each place is come to (0: never), when the one who is there is back, and when all ends. */
    private final class Walk {
        final int[][] come = new int[m][reach + 1], told = new int[m][reach + 1], by = new int[m][reach + 1];
        int time = 0;
    }

    private Walk walk(List<int[]> plan) {
        Walk walk = new Walk();
        for (int i = 0; i < plan.size(); i++) {
            int ray = plan.get(i)[0];
            int steps = plan.get(i)[1];
            List<Integer> found = new ArrayList<>();
            for (int s = 1; s <= steps; s++) {
                walk.time += out;
                if (walk.come[ray][s] == 0) {
                    walk.come[ray][s] = walk.time;
                    walk.by[ray][s] = i;
                    found.add(s);
                }
            }
            for (int s = steps; s >= 1; s--) walk.time += back;
            for (int s : found) walk.told[ray][s] = walk.time;
        }
        return walk;
    }

    int way(int ray, int steps) {
        if (!place(ray, steps)) return UNKNOWN;
        int way = walk(trips).come[ray][steps];
        return way == 0 ? NONE : way;
    }

    private static int part(long upper, long lower, int what) {
        for (long d = lower; d > 1; d--) {
            if (upper % d == 0 && lower % d == 0) {
                upper /= d;
                lower /= d;
            }
        }
        return (int) (what == 0 ? upper : lower);
    }

    int late(int ray, int steps, int what) {
        if (!place(ray, steps)) return UNKNOWN;
        if (what != 0 && what != 1) return OUTSIDE;
        int way = way(ray, steps);
        return way == NONE ? NONE : part(way, (long) out * steps, what);
    }

    private List<Integer> missedPlaces() {
        List<Integer> places = new ArrayList<>();
        Walk walk = walk(trips);
        for (int ray = 0; ray < m; ray++) {
            for (int s = 1; s <= reach; s++) {
                if (walk.come[ray][s] == 0) places.add(10 * ray + s);
            }
        }
        return places;
    }

    int worst(int what) {
        if (what < 0 || what > 3) return OUTSIDE;
        if (!missedPlaces().isEmpty()) return STATE;
        Walk walk = walk(trips);
        int ray = -1;
        int steps = -1;
        for (int r = 0; r < m; r++) {
            for (int s = 1; s <= reach; s++) {
                if (ray < 0 || walk.come[r][s] * steps > walk.come[ray][steps] * s) {
                    ray = r;
                    steps = s;
                }
            }
        }
        if (what == 2) return ray;
        if (what == 3) return steps;
        return late(ray, steps, what);
    }

    int mean() {
        if (!missedPlaces().isEmpty()) return STATE;
        Walk walk = walk(trips);
        int sum = 0;
        for (int r = 0; r < m; r++) {
            for (int s = 1; s <= reach; s++) sum += share[r][s] * walk.come[r][s];
        }
        return sum;
    }

    int missed(int i) {
        List<Integer> places = missedPlaces();
        if (i == -1) return places.size();
        return i >= 0 && i < places.size() ? places.get(i) : NONE;
    }

    int finds(int i) {
        if (i < 0 || i >= trips.size()) return UNKNOWN;
        Walk walk = walk(trips);
        for (int r = 0; r < m; r++) {
            for (int s = 1; s <= reach; s++) {
                if (walk.come[r][s] > 0 && walk.by[r][s] == i) return 10 * r + s;
            }
        }
        return NONE;
    }

    private interface Cost {
        /** Of a trip and all behind it, at the least. */
        long of(int[] gone, int ahead, int ray, int steps);
    }

    private long[][][][] blank() {
        int far = m == 3 ? reach : 0;
        int most = m * reach * (reach + 1) / 2;
        long[][][][] table = new long[reach + 1][reach + 1][far + 1][most + 1];
        for (long[][][] a : table) for (long[][] b : a) for (long[] c : b) Arrays.fill(c, -1);
        return table;
    }

    private long least(long[][][][] table, int[] gone, int ahead, Cost cost) {
        long[] row = table[gone[0]][gone[1]][gone[2]];
        if (row[ahead] >= 0) return row[ahead];
        long least = Long.MAX_VALUE;
        for (int ray = 0; ray < m; ray++) {
            for (int s = gone[ray] + 1; s <= reach; s++) {
                least = Math.min(least, cost.of(gone, ahead, ray, s));
            }
        }
        row[ahead] = least == Long.MAX_VALUE ? 0 : least;
        return row[ahead];
    }

    private int[] with(int[] gone, int ray, int steps) {
        int[] next = gone.clone();
        next[ray] = steps;
        return next;
    }

    private long meanOf(int[] gone, int ahead, int ray, int steps) {
        long sum = 0;
        for (int s = gone[ray] + 1; s <= steps; s++) {
            sum += (long) share[ray][s] * ((out + back) * ahead + out * s);
        }
        return sum + least(meanFrom, with(gone, ray, steps), ahead + steps, this::meanOf);
    }

    // in parts of 1 by 840 OUT
    private long worstOf(int[] gone, int ahead, int ray, int steps) {
        long worst = 0;
        for (int s = gone[ray] + 1; s <= steps; s++) {
            worst = Math.max(worst, (long) ((out + back) * ahead + out * s) * (840 / s));
        }
        return Math.max(worst, least(worstFrom, with(gone, ray, steps), ahead + steps, this::worstOf));
    }

    private void seekMean() {
        if (meanPlan != null) return;
        meanFrom = blank();
        meanPlan = new ArrayList<>();
        int[] gone = new int[3];
        int ahead = 0;
        long left = least(meanFrom, gone, 0, this::meanOf);
        boolean more = true;
        while (more) {
            more = false;
            for (int ray = 0; ray < m && !more; ray++) {
                for (int s = gone[ray] + 1; s <= reach && !more; s++) {
                    if (meanOf(gone, ahead, ray, s) == left) {
                        meanPlan.add(new int[] {ray, s});
                        gone = with(gone, ray, s);
                        ahead += s;
                        left = least(meanFrom, gone, ahead, this::meanOf);
                        more = true;
                    }
                }
            }
        }
    }

    private void seekWorst() {
        if (worstPlan != null) return;
        worstFrom = blank();
        worstPlan = new ArrayList<>();
        int[] gone = new int[3];
        int ahead = 0;
        long bound = least(worstFrom, gone, 0, this::worstOf);
        boolean more = true;
        while (more) {
            more = false;
            for (int ray = 0; ray < m && !more; ray++) {
                for (int s = gone[ray] + 1; s <= reach && !more; s++) {
                    if (worstOf(gone, ahead, ray, s) <= bound) {
                        worstPlan.add(new int[] {ray, s});
                        gone = with(gone, ray, s);
                        ahead += s;
                        more = true;
                    }
                }
            }
        }
    }

    int leastMean() {
        seekMean();
        return (int) least(meanFrom, new int[3], 0, this::meanOf);
    }

    private int placeOf(List<int[]> plan, int i) {
        return i >= 0 && i < plan.size() ? 10 * plan.get(i)[0] + plan.get(i)[1] : NONE;
    }

    int meanTrip(int i) {
        seekMean();
        return placeOf(meanPlan, i);
    }

    private long worstParts() {
        seekWorst();
        return least(worstFrom, new int[3], 0, this::worstOf);
    }

    int leastWorst(int what) {
        if (what != 0 && what != 1) return OUTSIDE;
        return part(worstParts(), 840L * out, what);
    }

    int worstTrip(int i) {
        seekWorst();
        return placeOf(worstPlan, i);
    }

    int within(int p, int q) {
        if (p < 1 || p > 10000 || q < 1 || q > 10000) return OUTSIDE;
        return worstParts() * q <= 840L * out * p ? 1 : 0;
    }

    int take(int which) {
        if (which != 0 && which != 1) return OUTSIDE;
        seekMean();
        seekWorst();
        trips.clear();
        trips.addAll(which == 0 ? meanPlan : worstPlan);
        return trips.size();
    }

    private Walk walkOf(int who) {
        List<int[]> own = new ArrayList<>();
        for (int i = who; i < trips.size(); i += 2) own.add(trips.get(i));
        return walk(own);
    }

    int both(int ray, int steps, int what) {
        if (!place(ray, steps)) return UNKNOWN;
        if (what < 0 || what > 4) return OUTSIDE;
        Walk[] walks = {walkOf(0), walkOf(1)};
        int who = -1;
        for (int w = 0; w < 2; w++) {
            int come = walks[w].come[ray][steps];
            if (come > 0 && (who < 0 || come < walks[who].come[ray][steps])) who = w;
        }
        if (who < 0) return NONE;
        int met = walks[who].come[ray][steps];
        switch (what) {
            case 0: return met;
            case 1: return walks[who].told[ray][steps];
            case 2: return who;
            default: return part(met, (long) out * steps, what - 3);
        }
    }

    int end() {
        return Math.max(walkOf(0).time, walkOf(1).time);
    }

    int told(int what) {
        switch (what) {
            case 0: return m;
            case 1: return reach;
            case 2: return out;
            case 3: return back;
            case 4: return trips.size();
            case 5: {
                int sum = 0;
                for (int[] row : share) for (int v : row) sum += v;
                return sum;
            }
            case 6: return walk(trips).time;
            default: return OUTSIDE;
        }
    }
}
