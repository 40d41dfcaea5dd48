import java.util.ArrayList;
import java.util.List;
import java.util.Random;

/** The bests of all small grounds against all their plans, each written out; of large ones against NaiveSearch. */
public final class BestTests {
    private final Due due;
    private final int m;
    private final int reach;
    private final int out;
    private final int back;
    private final int[][] share;
    private final int[] gone;
    private final List<Integer> trips = new ArrayList<>();

    private long leastMean = Long.MAX_VALUE;
    private long leastUpper = 0;
    private long leastLower = 0;
    private List<Integer> meanPlan;
    private List<Integer> worstPlan;

    private BestTests(Due due, int m, int reach, Random random) {
        this.due = due;
        this.m = m;
        this.reach = reach;
        out = 1 + random.nextInt(9);
        back = 1 + random.nextInt(9);
        share = new int[m][reach + 1];
        int most = random.nextInt(4) == 0 ? 1 : random.nextInt(3) == 0 ? 3 : 101;
        for (int[] row : share) for (int s = 1; s <= reach; s++) row[s] = random.nextInt(most);
        gone = new int[m];
    }

    /** Plans come in the order of the document, so that the first of the best ones is the one due. */
    private void allPlans(long time, long mean, long upper, long lower) {
        boolean ended = true;
        for (int ray = 0; ray < m; ray++) {
            int was = gone[ray];
            for (int s = was + 1; s <= reach; s++) {
                ended = false;
                long nextMean = mean;
                long nextUpper = upper;
                long nextLower = lower;
                for (int k = was + 1; k <= s; k++) {
                    long way = time + (long) out * k;
                    nextMean += share[ray][k] * way;
                    if (way * nextLower > nextUpper * (out * k)) {
                        nextUpper = way;
                        nextLower = (long) out * k;
                    }
                }
                gone[ray] = s;
                trips.add(10 * ray + s);
                allPlans(time + (long) (out + back) * s, nextMean, nextUpper, nextLower);
                trips.remove(trips.size() - 1);
                gone[ray] = was;
            }
        }
        if (!ended) return;
        if (mean < leastMean) {
            leastMean = mean;
            meanPlan = new ArrayList<>(trips);
        }
        if (worstPlan == null || upper * leastLower < leastUpper * lower) {
            leastUpper = upper;
            leastLower = lower;
            worstPlan = new ArrayList<>(trips);
        }
    }

    private void compare() {
        LineSearch x = new LineSearch();
        x.rays(m, reach);
        x.costs(out, back);
        for (int ray = 0; ray < m; ray++) for (int s = 1; s <= reach; s++) x.share(ray, s, share[ray][s]);
        String ground = m + " rays of " + reach + ", costs " + out + " " + back + ": ";
        allPlans(0, 0, 0, 1);
        due.is(ground + "leastMean", x.leastMean(), leastMean);
        long divisor = java.math.BigInteger.valueOf(leastUpper).gcd(java.math.BigInteger.valueOf(leastLower)).longValue();
        int upper = (int) (leastUpper / divisor);
        int lower = (int) (leastLower / divisor);
        due.is(ground + "leastWorst(0)", x.leastWorst(0), upper);
        due.is(ground + "leastWorst(1)", x.leastWorst(1), lower);
        due.is(ground + "within, just", x.within(upper, lower), 1);
        due.is(ground + "within, ten times just", x.within(10 * upper, 10 * lower), 1);
        due.is(ground + "within, too little", x.within(10 * upper - 1, 10 * lower), 0);
        due.is(ground + "within, a little too little", x.within(upper * (10000 / upper), lower * (10000 / upper) + 1), 0);
        for (int i = 0; i < 25; i++) {
            due.is(ground + "meanTrip(" + i + ")", x.meanTrip(i), i < meanPlan.size() ? meanPlan.get(i) : -6);
            due.is(ground + "worstTrip(" + i + ")", x.worstTrip(i), i < worstPlan.size() ? worstPlan.get(i) : -6);
        }
        due.is(ground + "take(0)", x.take(0), meanPlan.size());
        due.is(ground + "mean", x.mean(), leastMean);
        due.is(ground + "take(1)", x.take(1), worstPlan.size());
        due.is(ground + "worst(0)", x.worst(0), upper);
        due.is(ground + "worst(1)", x.worst(1), lower);
    }

    private static void compareNaive(Due due, int m, int reach, Random random) {
        LineSearch x = new LineSearch();
        NaiveSearch y = new NaiveSearch();
        int out = 1 + random.nextInt(9);
        int back = 1 + random.nextInt(9);
        x.rays(m, reach);
        y.rays(m, reach);
        x.costs(out, back);
        y.costs(out, back);
        int most = random.nextInt(3) == 0 ? 2 : random.nextInt(2) == 0 ? 4 : 101;
        for (int ray = 0; ray < m; ray++) {
            for (int s = 1; s <= reach; s++) {
                int v = random.nextInt(most);
                x.share(ray, s, v);
                y.share(ray, s, v);
            }
        }
        String ground = m + " rays of " + reach + ", costs " + out + " " + back + ": ";
        due.is(ground + "leastMean", x.leastMean(), y.leastMean());
        due.is(ground + "leastWorst(0)", x.leastWorst(0), y.leastWorst(0));
        due.is(ground + "leastWorst(1)", x.leastWorst(1), y.leastWorst(1));
        for (int i = 0; i < 25; i++) {
            due.is(ground + "meanTrip(" + i + ")", x.meanTrip(i), y.meanTrip(i));
            due.is(ground + "worstTrip(" + i + ")", x.worstTrip(i), y.worstTrip(i));
        }
    }

    public static void main(String[] args) {
        Due due = new Due("bests");
        Random random = new Random(20261116);
        for (int reach = 1; reach <= 5; reach++) {
            for (int i = 0; i < 40; i++) new BestTests(due, 2, reach, random).compare();
        }
        for (int reach = 1; reach <= 3; reach++) {
            for (int i = 0; i < 40; i++) new BestTests(due, 3, reach, random).compare();
        }
        for (int m = 2; m <= 3; m++) {
            for (int reach = 1; reach <= 8; reach++) {
                for (int i = 0; i < 8; i++) compareNaive(due, m, reach, random);
            }
        }
        due.close();
    }
}
