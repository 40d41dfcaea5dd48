/**
 * Lost on a line: a thing at an unknown place on one of a few rays, and plans of trips out and back
 * that look for it.
 */
public final class LineSearch {
    public static final int NONE = -6, UNKNOWN = -1, OUTSIDE = -2, STATE = -3, FULL = -4, NO = -5;

    private static final int FEWEST_RAYS = 2;
    private static final int MOST_RAYS = 3;
    private static final int MOST_STEPS = 8;
    private static final int MOST_COST = 9;
    private static final int MOST_SHARE = 100;
    private static final int MOST_TRIPS = 30;
    private static final int MOST_TERM = 10000;

    /** Who goes all trips; of two, 0 goes the even ones and 1 the odd ones. */
    private static final int ALONE = -1;

    /** A ray has been gone 0 to MOST_STEPS steps far. */
    private static final int DEPTHS = MOST_STEPS + 1;
    private static final int STATES = DEPTHS * DEPTHS * DEPTHS;
    /** How far two rays have been gone. */
    private static final int ROWS = DEPTHS * DEPTHS;

    /** 1 to MOST_STEPS all divide it, so that every fraction by steps is a whole number of parts. */
    private static final int PARTS = 840;
    /** 2 to this power is more than the parts of the worst case of any ground. */
    private static final int HALVINGS = 14;

    /** More than any plan spends: 2400 shares times 3 rays of 36 steps each is far below. */
    private static final int PURSE = 10000000;

    private int out;
    private int back;
    private final Ground ground;
    private final Plan plan;

    /** Both bests are kept until what they hang on changes; neither hangs on the costs. */
    private final Outlook outlook;
    private final Plan meanPlan;
    private final Plan worstPlan;
    private boolean meanKnown;
    private boolean worstKnown;
    /** The sum of shares times the steps of whole trips ahead, in the plan of the least mean. */
    private int meanSteps;
    /** The greatest steps of whole trips ahead by a place's own steps, in parts. */
    private int worstParts;

    public LineSearch() {
        out = 1;
        back = 1;
        ground = new Ground();
        plan = new Plan();
        outlook = new Outlook();
        meanPlan = new Plan();
        worstPlan = new Plan();
        meanKnown = false;
        worstKnown = false;
        meanSteps = 0;
        worstParts = 0;
    }

    // ---- 1 rays, plans

    public int rays(int m, int steps) {
        if (m < FEWEST_RAYS || m > MOST_RAYS || steps < 1 || steps > MOST_STEPS) {
            return OUTSIDE;
        }
        if (!ground.isOf(m, steps)) {
            worstKnown = false;
        }
        meanKnown = false;
        ground.lay(m, steps);
        plan.empty();
        return m * steps;
    }

    public int costs(int out, int back) {
        if (out < 1 || out > MOST_COST || back < 1 || back > MOST_COST) {
            return OUTSIDE;
        }
        this.out = out;
        this.back = back;
        return 1;
    }

    public int share(int ray, int steps, int v) {
        if (!ground.has(ray, steps)) {
            return UNKNOWN;
        }
        if (v < 0 || v > MOST_SHARE) {
            return OUTSIDE;
        }
        int before = ground.shareAt(ray, steps);
        ground.setShare(ray, steps, v);
        if (v != before) {
            meanKnown = false;
        }
        return before;
    }

    public int shareOf(int ray, int steps) {
        return ground.has(ray, steps) ? ground.shareAt(ray, steps) : UNKNOWN;
    }

    public int trip(int ray, int steps) {
        if (!ground.has(ray, steps)) {
            return UNKNOWN;
        }
        int number = plan.count;
        return plan.add(ray, steps) ? number : FULL;
    }

    public int tripOf(int i, int what) {
        if (!plan.has(i)) {
            return UNKNOWN;
        }
        switch (what) {
            case 0:
                return plan.rayOf(i);
            case 1:
                return plan.stepsOf(i);
            case 2:
                return wholeTrips(plan.stepsAhead(i, ALONE));
            default:
                return OUTSIDE;
        }
    }

    public int drop() {
        return plan.removeLast() ? plan.count : UNKNOWN;
    }

    public int clear() {
        int before = plan.count;
        plan.empty();
        return before;
    }

    public int way(int ray, int steps) {
        return ground.has(ray, steps) ? wayTo(ray, steps) : UNKNOWN;
    }

    public int late(int ray, int steps, int what) {
        if (!ground.has(ray, steps)) {
            return UNKNOWN;
        }
        if (what < 0 || what > 1) {
            return OUTSIDE;
        }
        int way = wayTo(ray, steps);
        return way == NONE ? NONE : lowest(way, out * steps, what);
    }

    public int worst(int what) {
        if (what < 0 || what > 3) {
            return OUTSIDE;
        }
        if (countMissed() > 0) {
            return STATE;
        }
        int place = worstPlace();
        int ray = place / 10;
        int steps = place % 10;
        if (what == 2) {
            return ray;
        }
        if (what == 3) {
            return steps;
        }
        return lowest(wayTo(ray, steps), out * steps, what);
    }

    public int mean() {
        if (countMissed() > 0) {
            return STATE;
        }
        int sum = 0;
        for (int ray = 0; ray < ground.rays; ray++) {
            for (int steps = 1; steps <= ground.reach; steps++) {
                sum += ground.shareAt(ray, steps) * wayTo(ray, steps);
            }
        }
        return sum;
    }

    public int missed(int i) {
        if (i == -1) {
            return countMissed();
        }
        int left = i;
        for (int ray = 0; ray < ground.rays; ray++) {
            for (int steps = plan.farthest(ray, plan.count) + 1; steps <= ground.reach; steps++) {
                if (left == 0) {
                    return 10 * ray + steps;
                }
                left--;
            }
        }
        return NONE;
    }

    public int finds(int i) {
        if (!plan.has(i)) {
            return UNKNOWN;
        }
        int ray = plan.rayOf(i);
        int gone = plan.farthest(ray, i);
        return plan.stepsOf(i) > gone ? 10 * ray + gone + 1 : NONE;
    }

    // ---- 2 the best

    public int leastMean() {
        findMean();
        return out * ground.sharedSteps() + wholeTrips(meanSteps);
    }

    public int meanTrip(int i) {
        findMean();
        return placeOf(meanPlan, i);
    }

    public int leastWorst(int what) {
        if (what < 0 || what > 1) {
            return OUTSIDE;
        }
        findWorst();
        return lowest(worstUpper(), out * PARTS, what);
    }

    public int worstTrip(int i) {
        findWorst();
        return placeOf(worstPlan, i);
    }

    public int within(int p, int q) {
        if (p < 1 || p > MOST_TERM || q < 1 || q > MOST_TERM) {
            return OUTSIDE;
        }
        findWorst();
        return (long) worstUpper() * q <= (long) p * (out * PARTS) ? 1 : 0;
    }

    public int take(int which) {
        if (which < 0 || which > 1) {
            return OUTSIDE;
        }
        if (which == 0) {
            findMean();
            plan.copy(meanPlan);
        } else {
            findWorst();
            plan.copy(worstPlan);
        }
        return plan.count;
    }

    // ---- 3 two

    public int both(int ray, int steps, int what) {
        if (!ground.has(ray, steps)) {
            return UNKNOWN;
        }
        if (what < 0 || what > 4) {
            return OUTSIDE;
        }
        int i = tripThatMeets(ray, steps);
        if (!plan.has(i)) {
            return NONE;
        }
        int who = i % 2;
        int ahead = plan.stepsAhead(i, who);
        int met = wholeTrips(ahead) + out * steps;
        switch (what) {
            case 0:
                return met;
            case 1:
                return wholeTrips(ahead + plan.stepsOf(i));
            case 2:
                return who;
            default:
                return lowest(met, out * steps, what - 3);
        }
    }

    public int end() {
        int count = plan.count;
        return wholeTrips(Math.max(plan.stepsAhead(count, 0), plan.stepsAhead(count, 1)));
    }

    public int told(int what) {
        switch (what) {
            case 0:
                return ground.rays;
            case 1:
                return ground.reach;
            case 2:
                return out;
            case 3:
                return back;
            case 4:
                return plan.count;
            case 5:
                return ground.allShares();
            case 6:
                return wholeTrips(plan.stepsAhead(plan.count, ALONE));
            default:
                return OUTSIDE;
        }
    }

    // ---- what the calls share

    private int wholeTrips(int steps) {
        return (out + back) * steps;
    }

    /** The way of a place that there is, or NONE. */
    private int wayTo(int ray, int steps) {
        int i = plan.firstTo(ray, steps, ALONE);
        return i < 0 ? NONE : wholeTrips(plan.stepsAhead(i, ALONE)) + out * steps;
    }

    private int countMissed() {
        int count = 0;
        for (int ray = 0; ray < ground.rays; ray++) {
            count += ground.reach - plan.farthest(ray, plan.count);
        }
        return count;
    }

    /** Of a plan that comes to all places: 10 times the ray, and the steps. */
    private int worstPlace() {
        int worstRay = 0;
        int worstSteps = 1;
        int worstWay = wayTo(0, 1);
        for (int ray = 0; ray < ground.rays; ray++) {
            for (int steps = 1; steps <= ground.reach; steps++) {
                int way = wayTo(ray, steps);
                // OUT is in both divisors, so that the steps alone tell which is later.
                if (way * worstSteps > worstWay * steps) {
                    worstRay = ray;
                    worstSteps = steps;
                    worstWay = way;
                }
            }
        }
        return 10 * worstRay + worstSteps;
    }

    /** The trip of the one of two who is first at a place, the first one's of both at once, or -1. */
    private int tripThatMeets(int ray, int steps) {
        int first = plan.firstTo(ray, steps, 0);
        int second = plan.firstTo(ray, steps, 1);
        if (first < 0) {
            return second;
        }
        if (second < 0) {
            return first;
        }
        return plan.stepsAhead(second, 1) < plan.stepsAhead(first, 0) ? second : first;
    }

    private static int placeOf(Plan plan, int i) {
        return plan.has(i) ? 10 * plan.rayOf(i) + plan.stepsOf(i) : NONE;
    }

    private void findMean() {
        if (!meanKnown) {
            meanSteps = outlook.planMean(ground, meanPlan);
            meanKnown = true;
        }
    }

    private void findWorst() {
        if (!worstKnown) {
            worstParts = outlook.planWorst(ground, worstPlan);
            worstKnown = true;
        }
    }

    /** The least worst case over OUT times PARTS. */
    private int worstUpper() {
        return out * PARTS + wholeTrips(worstParts);
    }

    /** The upper (0) or lower (1) number of a fraction in lowest terms. */
    private static int lowest(int upper, int lower, int what) {
        int divisor = commonDivisor(upper, lower);
        if (divisor < 1) {
            return what == 0 ? upper : lower;
        }
        return what == 0 ? upper / divisor : lower / divisor;
    }

    private static int commonDivisor(int a, int b) {
        int greater = a;
        int smaller = b;
        // Two ints need at most 47 rounds.
        for (int round = 0; round < 64 && smaller > 0; round++) {
            int rest = greater % smaller;
            greater = smaller;
            smaller = rest;
        }
        return greater;
    }

    // All rows are read and written here, so that no index goes unlooked at.

    private static int at(int[] row, int i) {
        return i >= 0 && i < row.length ? row[i] : 0;
    }

    private static void put(int[] row, int i, int v) {
        if (i >= 0 && i < row.length) {
            row[i] = v;
        }
    }

    private static void putAll(int[] row, int v) {
        for (int i = 0; i < row.length; i++) {
            row[i] = v;
        }
    }

    /** The rays, how many steps each is long, and the shares of their places. */
    private static final class Ground {
        int rays;
        int reach;
        private final int[] shares;

        Ground() {
            shares = new int[MOST_RAYS * DEPTHS];
            lay(2, 5);
        }

        void lay(int m, int steps) {
            rays = m;
            reach = steps;
            putAll(shares, 1);
        }

        boolean isOf(int m, int steps) {
            return rays == m && reach == steps;
        }

        boolean has(int ray, int steps) {
            return ray >= 0 && ray < rays && steps >= 1 && steps <= reach;
        }

        int shareAt(int ray, int steps) {
            return has(ray, steps) ? at(shares, ray * DEPTHS + steps) : 0;
        }

        void setShare(int ray, int steps, int v) {
            if (has(ray, steps)) {
                put(shares, ray * DEPTHS + steps, v);
            }
        }

        int allShares() {
            int sum = 0;
            for (int ray = 0; ray < rays; ray++) {
                for (int steps = 1; steps <= reach; steps++) {
                    sum += shareAt(ray, steps);
                }
            }
            return sum;
        }

        /** The sum of shares times steps: what even one who knew would go. */
        int sharedSteps() {
            int sum = 0;
            for (int ray = 0; ray < rays; ray++) {
                for (int steps = 1; steps <= reach; steps++) {
                    sum += shareAt(ray, steps) * steps;
                }
            }
            return sum;
        }
    }

    /** Trips out and back, in their order. */
    private static final class Plan {
        private final int[] onRay;
        private final int[] toSteps;
        int count;

        Plan() {
            onRay = new int[MOST_TRIPS];
            toSteps = new int[MOST_TRIPS];
            count = 0;
        }

        boolean has(int i) {
            return i >= 0 && i < count;
        }

        int rayOf(int i) {
            return has(i) ? at(onRay, i) : 0;
        }

        int stepsOf(int i) {
            return has(i) ? at(toSteps, i) : 0;
        }

        boolean add(int ray, int steps) {
            if (count >= MOST_TRIPS) {
                return false;
            }
            put(onRay, count, ray);
            put(toSteps, count, steps);
            count++;
            return true;
        }

        boolean removeLast() {
            if (count < 1) {
                return false;
            }
            count--;
            return true;
        }

        void empty() {
            count = 0;
        }

        void copy(Plan other) {
            count = 0;
            for (int i = 0; i < other.count; i++) {
                add(other.rayOf(i), other.stepsOf(i));
            }
        }

        /** Whether a trip is for the one of two, or for the one who is alone. */
        private static boolean isFor(int who, int i) {
            return who == ALONE || i % 2 == who;
        }

        /** The first trip of theirs that comes to a place, or -1. */
        int firstTo(int ray, int steps, int who) {
            for (int i = 0; i < count; i++) {
                if (isFor(who, i) && rayOf(i) == ray && stepsOf(i) >= steps) {
                    return i;
                }
            }
            return -1;
        }

        /** All steps, counted one way, of their trips ahead of one. */
        int stepsAhead(int ahead, int who) {
            int sum = 0;
            for (int i = 0; i < ahead && i < count; i++) {
                if (isFor(who, i)) {
                    sum += stepsOf(i);
                }
            }
            return sum;
        }

        /** How far the trips ahead of one have gone on a ray. */
        int farthest(int ray, int ahead) {
            int gone = 0;
            for (int i = 0; i < ahead && i < count; i++) {
                if (rayOf(i) == ray) {
                    gone = Math.max(gone, stepsOf(i));
                }
            }
            return gone;
        }
    }

    /**
     * What can still be done from each state on, a state being how far each ray has been gone.
     *
     * A trip costs its steps times a price: for the mean, the shares not found by the end of that
     * trip, since all these wait for it; for the worst case, 1. A trip may begin only if no more has
     * been spent than the cap of the first new place on its ray, which of all places that the trip
     * finds is the latest. So the most that may have been spent on coming to a state is known from
     * the states behind it, and with it both bests and their first plans.
     */
    private static final class Outlook {
        private int rays;
        private int reach;
        /** By steps: the most that may have been spent before a trip finds that place first. */
        private final int[] caps;
        /** By ray and how far it has been gone: its part of the price. */
        private final int[] prices;
        private int basePrice;
        /** By state: the most that may have been spent on coming to it. */
        private final int[] most;
        /** By ray and how far the others are gone: the same if the next trip is on it, but for its cap. */
        private final int[] mostOnRay;
        /** How far each ray has been gone while a plan is written. */
        private final int[] gone;

        Outlook() {
            rays = 0;
            reach = 0;
            caps = new int[DEPTHS];
            prices = new int[MOST_RAYS * DEPTHS];
            basePrice = 0;
            most = new int[STATES];
            mostOnRay = new int[MOST_RAYS * ROWS];
            gone = new int[MOST_RAYS];
        }

        /** Finds the plan of the least mean, and answers its sum of shares times steps ahead. */
        int planMean(Ground ground, Plan plan) {
            rays = ground.rays;
            reach = ground.reach;
            basePrice = 0;
            for (int ray = 0; ray < MOST_RAYS; ray++) {
                int unfound = 0;
                for (int steps = MOST_STEPS; steps >= 0; steps--) {
                    put(prices, ray * DEPTHS + steps, unfound);
                    unfound += ground.shareAt(ray, steps);
                }
            }
            putAll(caps, PURSE);
            sweep();
            int spent = at(most, 0);
            write(spent, plan);
            return PURSE - spent;
        }

        /** Finds the plan of the least worst case, and answers its steps ahead by steps, in parts. */
        int planWorst(Ground ground, Plan plan) {
            rays = ground.rays;
            reach = ground.reach;
            basePrice = 1;
            putAll(prices, 0);
            int tooFew = 0;
            // Ray by ray, each to its end, is never worse than this.
            int enough = PARTS * reach * (rays - 1);
            for (int i = 0; i < HALVINGS && enough - tooFew > 1; i++) {
                int middle = (tooFew + enough) / 2;
                capBy(middle);
                sweep();
                if (at(most, 0) >= 0) {
                    enough = middle;
                } else {
                    tooFew = middle;
                }
            }
            capBy(enough);
            sweep();
            write(0, plan);
            return enough;
        }

        private void capBy(int parts) {
            for (int steps = 0; steps < DEPTHS; steps++) {
                put(caps, steps, parts * steps / PARTS);
            }
        }

        /** From the state where all has been gone back to the one where nothing has. */
        private void sweep() {
            for (int a = lengthOf(0); a >= 0; a--) {
                for (int b = lengthOf(1); b >= 0; b--) {
                    for (int c = lengthOf(2); c >= 0; c--) {
                        settle(a, b, c);
                    }
                }
            }
        }

        private int lengthOf(int ray) {
            return ray < rays ? reach : 0;
        }

        /** Settles one state, and offers it to those behind it as the end of a trip on each ray. */
        private void settle(int a, int b, int c) {
            int rowA = b * DEPTHS + c;
            int rowB = ROWS + a * DEPTHS + c;
            int rowC = 2 * ROWS + a * DEPTHS + b;
            int best = Math.max(through(0, a, rowA), Math.max(through(1, b, rowB), through(2, c, rowC)));
            if (a == lengthOf(0) && b == lengthOf(1) && c == lengthOf(2)) {
                best = PURSE;
            }
            put(most, (a * DEPTHS + b) * DEPTHS + c, best);
            int price = basePrice + at(prices, a) + at(prices, DEPTHS + b) + at(prices, 2 * DEPTHS + c);
            offer(0, a, rowA, best - a * price);
            offer(1, b, rowB, best - b * price);
            offer(2, c, rowC, best - c * price);
        }

        private int through(int ray, int far, int row) {
            return far < lengthOf(ray) ? Math.min(at(caps, far + 1), at(mostOnRay, row)) : -PURSE;
        }

        private void offer(int ray, int far, int row, int value) {
            // The end of the ray is come to first, and what an earlier sweep left there is void.
            boolean first = far == lengthOf(ray);
            put(mostOnRay, row, first ? value : Math.max(value, at(mostOnRay, row)));
        }

        /** The first plan by rays, then steps, that goes on to the end with so much spent at first. */
        private void write(int spentAtFirst, Plan plan) {
            plan.empty();
            putAll(gone, 0);
            int spent = spentAtFirst;
            for (int i = 0; i < MOST_TRIPS; i++) {
                int place = firstTrip(spent);
                if (place == NONE) {
                    return;
                }
                int ray = place / 10;
                int steps = place % 10;
                plan.add(ray, steps);
                spent += costOf(ray, steps);
                put(gone, ray, steps);
            }
        }

        private int firstTrip(int spent) {
            for (int ray = 0; ray < rays; ray++) {
                int next = at(gone, ray) + 1;
                if (spent > at(caps, next)) {
                    continue;
                }
                for (int steps = next; steps <= reach; steps++) {
                    if (spent + costOf(ray, steps) <= at(most, stateAfter(ray, steps))) {
                        return 10 * ray + steps;
                    }
                }
            }
            return NONE;
        }

        private int costOf(int ray, int steps) {
            int price = basePrice;
            for (int r = 0; r < MOST_RAYS; r++) {
                price += at(prices, r * DEPTHS + (r == ray ? steps : at(gone, r)));
            }
            return price * steps;
        }

        private int stateAfter(int ray, int steps) {
            int state = 0;
            for (int r = 0; r < MOST_RAYS; r++) {
                state = state * DEPTHS + (r == ray ? steps : at(gone, r));
            }
            return state;
        }
    }
}
