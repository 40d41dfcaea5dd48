import java.util.List;

/**
 * The document's sentences that name a boundary case other than a bound of numbers (those are in BoundTests):
 * a plan that is empty, one that is full, places just come to and just not, several at once, whole fractions.
 * Each test is headed by its sentence.
 */
public final class EdgeTests {
    private static final int NONE = -6, UNKNOWN = -1, STATE = -3, FULL = -4;

    private final Due due = new Due("edges");

    public static void main(String[] args) {
        EdgeTests tests = new EdgeTests();
        tests.atFirst();
        tests.anewByRays();
        tests.costsLeaveAllElse();
        tests.shareWhichItWas();
        tests.tripsNumberedFromNought();
        tests.aheadOfTheFirst();
        tests.dropOnlyTheLatest();
        tests.clearEmptyAndFull();
        tests.wayOfEmpty();
        tests.wayJustComeTo();
        tests.wayByTheFirstTrip();
        tests.lateAtOnce();
        tests.lowestTerms();
        tests.worstOfSeveralRays();
        tests.worstOfSeveralSteps();
        tests.worstAtTheEnd();
        tests.worstFullAndGreatest();
        tests.worstWhateverTheShares();
        tests.meanNotByShares();
        tests.missedEmptyAndNone();
        tests.findsJustFarther();
        tests.leastMeanOfNoShares();
        tests.leastMeanGreatest();
        tests.leastMeanOfSeveral();
        tests.leastWorstOfOneStep();
        tests.leastWorstOfSeveral();
        tests.withinJust();
        tests.withinIffLeastWorst();
        tests.bestsWhateverThePlan();
        tests.bestsKnownAnew();
        tests.takeOnEmptyAndFull();
        tests.takeThenMore();
        tests.takeLeavesTheBests();
        tests.bothOfEmpty();
        tests.bothOfOneTrip();
        tests.bothAtOnce();
        tests.bothJustAhead();
        tests.bothToldByThatOne();
        tests.endOfFewAndFull();
        tests.toldOfEmptyAndFull();
        tests.all512Calls();
        tests.dear512Calls();
        tests.readingChangesNothing();
        tests.objectsApart();
        tests.due.close();
    }

    private void is(String what, int got, int want) {
        due.is(what, got, want);
    }

    private static LineSearch line(int m, int reach, int... places) {
        LineSearch x = new LineSearch();
        x.rays(m, reach);
        go(x, places);
        return x;
    }

    /** Trips, each told as 10 times the ray, and the steps. */
    private static void go(LineSearch x, int... places) {
        for (int p : places) x.trip(p / 10, p % 10);
    }

    private void plan(String what, LineSearch x, int... places) {
        is(what + ": TRIPS", x.told(4), places.length);
        for (int i = 0; i < places.length; i++) is(what + ": TRIP " + i, 10 * x.tripOf(i, 0) + x.tripOf(i, 1), places[i]);
    }

    private void meanPlan(String what, LineSearch x, int... places) {
        for (int i = 0; i < places.length; i++) is(what + ": meanTrip(" + i + ")", x.meanTrip(i), places[i]);
        is(what + ": meanTrip behind the last", x.meanTrip(places.length), NONE);
    }

    private void worstPlan(String what, LineSearch x, int... places) {
        for (int i = 0; i < places.length; i++) is(what + ": worstTrip(" + i + ")", x.worstTrip(i), places[i]);
        is(what + ": worstTrip behind the last", x.worstTrip(places.length), NONE);
    }

    /** 'm .. 2 at first: a line', 'R .. 5 at first', '1 to 9 both; 1 at first', 'SHARE (.. 1 at first)', 'no TRIPS' */
    private void atFirst() {
        is("RAYS at first", new LineSearch().told(0), 2);
        is("steps at first", new LineSearch().told(1), 5);
        is("OUT at first", new LineSearch().told(2), 1);
        is("BACK at first", new LineSearch().told(3), 1);
        is("TRIPS at first", new LineSearch().told(4), 0);
        is("SHARES at first", new LineSearch().told(5), 10);
        is("cost at first", new LineSearch().told(6), 0);
        for (int p = 0; p < 10; p++) is("SHARE at first", new LineSearch().shareOf(p / 5, 1 + p % 5), 1);
    }

    /** 'RAYS and steps anew (SHARES 1, no TRIPS; OUT, BACK stay)': of a full plan too, and of the same numbers */
    private void anewByRays() {
        int[][] grounds = {{2, 1}, {2, 8}, {3, 1}, {3, 8}};
        for (Scene scene : Scene.ALL) {
            for (int[] g : grounds) {
                LineSearch x = scene.lay();
                int out = x.told(2);
                int back = x.told(3);
                is("rays", x.rays(g[0], g[1]), g[0] * g[1]);
                int[] want = {g[0], g[1], out, back, 0, g[0] * g[1], 0};
                for (int w = 0; w < 7; w++) is(scene.name + ", laid anew: told(" + w + ")", x.told(w), want[w]);
                for (int p = 0; p < g[0] * g[1]; p++) is("SHARE, laid anew", x.shareOf(p / g[1], 1 + p % g[1]), 1);
                is("tripOf(0, 0), laid anew", x.tripOf(0, 0), UNKNOWN);
                is("missed(-1), laid anew", x.missed(-1), g[0] * g[1]);
                is("trip, laid anew", x.trip(g[0] - 1, g[1]), 0);
            }
            LineSearch same = scene.lay();
            is("rays, the same", same.rays(scene.rays, scene.reach), scene.rays * scene.reach);
            is(scene.name + ", the same anew: TRIPS", same.told(4), 0);
            is(scene.name + ", the same anew: SHARES", same.told(5), scene.rays * scene.reach);
        }
    }

    /** 'OUT and BACK: 1.': RAYS, SHARES and TRIPS are as they were, and all WAYS go by the new costs */
    private void costsLeaveAllElse() {
        LineSearch x = Scene.HALF.lay();
        is("costs(9, 9)", x.costs(9, 9), 1);
        int[] want = {3, 4, 9, 9, 5, 116, 180};
        for (int w = 0; w < 7; w++) is("costs(9, 9): told(" + w + ")", x.told(w), want[w]);
        plan("costs(9, 9)", x, 12, 3, 11, 21, 3);
        is("way(2, 1)", x.way(2, 1), 6 * 18 + 9);
        is("costs, the same again", x.costs(9, 9), 1);
        is("way(2, 1)", x.way(2, 1), 6 * 18 + 9);
    }

    /** 'SHARE of a PLACE: which it was.': that of this PLACE alone */
    private void shareWhichItWas() {
        LineSearch x = line(3, 8);
        for (int p = 0; p < 24; p++) is("share, first", x.share(p / 8, 1 + p % 8, 100 - p), 1);
        for (int p = 0; p < 24; p++) is("share, second", x.share(p / 8, 1 + p % 8, 0), 100 - p);
        is("told(5), all 0", x.told(5), 0);
        for (int p = 0; p < 24; p++) is("share, third", x.share(p / 8, 1 + p % 8, 100), 0);
        is("told(5), all 100", x.told(5), 2400);
    }

    /** 'A PLAN has TRIPS, 30 at most, numbered from 0 on' */
    private void tripsNumberedFromNought() {
        LineSearch x = new LineSearch();
        for (int i = 0; i < 30; i++) is("the number of a TRIP", x.trip(0, 1), i);
        is("one TRIP more", x.trip(0, 1), FULL);
        is("clear", x.clear(), 30);
        is("the number of a TRIP behind clear", x.trip(0, 1), 0);
    }

    /** '2 what all ahead of it cost': nothing, of the first one */
    private void aheadOfTheFirst() {
        LineSearch x = line(2, 8, 8, 11);
        x.costs(9, 9);
        is("tripOf(0, 2)", x.tripOf(0, 2), 0);
        is("tripOf(1, 2)", x.tripOf(1, 2), 144);
        LineSearch y = Scene.LARGEST.lay();
        is("tripOf(0, 2) of 30", y.tripOf(0, 2), 0);
        is("tripOf(29, 2) of 30", y.tripOf(29, 2), 29 * 144);
    }

    /** 'The latest TRIP goes: how many are left.' */
    private void dropOnlyTheLatest() {
        LineSearch x = line(2, 5, 1, 12, 3);
        is("drop", x.drop(), 2);
        plan("drop", x, 1, 12);
        go(x, 15);
        plan("drop, and another", x, 1, 12, 15);
        LineSearch full = Scene.FULL.lay();
        for (int left = 29; left >= 0; left--) is("drop of a full plan", full.drop(), left);
        is("drop of an empty plan", full.drop(), UNKNOWN);
        is("told(6)", full.told(6), 0);
    }

    /** 'All TRIPS go: how many there were.' */
    private void clearEmptyAndFull() {
        LineSearch x = new LineSearch();
        is("clear, empty", x.clear(), 0);
        go(x, 1);
        is("clear, one", x.clear(), 1);
        LineSearch full = Scene.FULL.lay();
        is("clear, full", full.clear(), 30);
        is("clear, empty again", full.clear(), 0);
        due.holds(Scene.pictureOf(full).equals(Scene.NEW.picture()), "clear leaves something");
    }

    /** 'there is none, if no TRIP does' */
    private void wayOfEmpty() {
        for (Scene scene : List.of(Scene.NEW, Scene.LEAST)) {
            LineSearch x = scene.lay();
            for (int ray = 0; ray < scene.rays; ray++) {
                for (int s = 1; s <= scene.reach; s++) {
                    is("way, no TRIPS", x.way(ray, s), NONE);
                    is("late upper, no TRIPS", x.late(ray, s, 0), NONE);
                    is("late lower, no TRIPS", x.late(ray, s, 1), NONE);
                }
            }
        }
    }

    /** 'out on a RAY to a PLACE': it comes to that PLACE and all nearer ones, to none farther, to none on others */
    private void wayJustComeTo() {
        for (int far = 1; far <= 8; far++) {
            LineSearch x = line(3, 8, 10 + far);
            for (int s = 1; s <= 8; s++) {
                is("way on the ray, to " + far, x.way(1, s), s <= far ? s : NONE);
                is("way on ray 0", x.way(0, s), NONE);
                is("way on ray 2", x.way(2, s), NONE);
            }
        }
    }

    /** 'all that TRIPS ahead of the first one that comes to it cost': later ones do not count */
    private void wayByTheFirstTrip() {
        LineSearch x = line(2, 5, 13, 3, 3, 2, 5, 3);
        is("way(0, 3)", x.way(0, 3), 6 + 3);
        is("way(0, 4)", x.way(0, 4), 6 + 6 + 6 + 4 + 4);
        is("way(1, 3)", x.way(1, 3), 3);
    }

    /** 'LATE: THE WAY by OUT times its steps.': 1 by 1 for the first TRIP's PLACES, whatever the costs */
    private void lateAtOnce() {
        for (int out = 1; out <= 9; out++) {
            LineSearch x = line(2, 8, 18);
            x.costs(out, 10 - out);
            for (int s = 1; s <= 8; s++) {
                is("late upper", x.late(1, s, 0), 1);
                is("late lower", x.late(1, s, 1), 1);
            }
        }
    }

    private static int common(int a, int b) {
        return b == 0 ? a : common(b, a % b);
    }

    private void lowest(String what, int upper, int lower, int gotUpper, int gotLower) {
        int d = common(upper, lower);
        is(what + ", upper", gotUpper, upper / d);
        is(what + ", lower", gotLower, lower / d);
        due.holds(gotLower > 0, what + ": the lower number is not above 0");
    }

    /** 'Fractions are told in lowest terms, the lower number above 0.' */
    private void lowestTerms() {
        for (int out = 1; out <= 9; out++) {
            for (int back = 1; back <= 9; back++) {
                LineSearch x = line(2, 8, 3, 18, 8);
                x.costs(out, back);
                int go = out + back;
                for (int s = 1; s <= 8; s++) {
                    lowest("late on ray 0", (s <= 3 ? 0 : 11 * go) + out * s, out * s, x.late(0, s, 0), x.late(0, s, 1));
                    lowest("late on ray 1", 3 * go + out * s, out * s, x.late(1, s, 0), x.late(1, s, 1));
                    lowest("both on ray 0", (s <= 3 ? 0 : 3 * go) + out * s, out * s, x.both(0, s, 3), x.both(0, s, 4));
                    lowest("both on ray 1", out * s, out * s, x.both(1, s, 3), x.both(1, s, 4));
                }
                // 1/1 waits for 3 steps, 0/4 for 11: 3 by 1 against 11 by 4
                lowest("worst", 3 * go + out, out, x.worst(0), x.worst(1));
                x.rays(2, 1);
                lowest("leastWorst", go + out, out, x.leastWorst(0), x.leastWorst(1));
            }
        }
    }

    /** 'of several PLACES the first by RAYS, then steps': alike on two rays */
    private void worstOfSeveralRays() {
        // In steps of whole trips ahead: 1/1 waits for 2, 0/2 for 4, both 2 by 1
        worst("0/2 and 1/1", line(2, 2, 1, 1, 12, 2), 5, 1, 0, 2);
        // 0/1 waits for 2, 1/2 for 4: both 2 by 1
        worst("0/1 and 1/2", line(2, 2, 11, 11, 2, 12), 5, 1, 0, 1);
        // 2/1 waits for 2, 1/1 for 3, 2/2 for 6: 3 by 1 twice
        worst("1/1 and 2/2", line(3, 2, 2, 21, 12, 21, 22), 7, 1, 1, 1);
        // 1/1 waits for 2, 2/1 for 3, 1/2 for 6: 3 by 1 twice
        worst("1/2 and 2/1", line(3, 2, 2, 11, 22, 11, 12), 7, 1, 1, 2);
        // next to these, one alone is the latest: 1/1 for 4; 2/1 for 6; 0/2 for 9
        worst("1/1 alone", line(3, 2, 22, 2, 11, 11, 12), 9, 1, 1, 1);
        worst("2/1 alone", line(3, 2, 1, 1, 12, 2, 21, 21, 22), 13, 1, 2, 1);
        worst("0/2 alone", line(3, 2, 22, 1, 11, 11, 12, 12, 2), 10, 1, 0, 2);
    }

    private void worst(String what, LineSearch x, int upper, int lower, int ray, int steps) {
        int[] want = {upper, lower, ray, steps};
        for (int w = 0; w < 4; w++) is("worst(" + w + "), " + what, x.worst(w), want[w]);
    }

    /** 'then steps': alike on one ray */
    private void worstOfSeveralSteps() {
        // 0/1 waits for 2, 0/2 for 4: both 2 by 1
        worst("0/1 and 0/2", line(2, 2, 12, 1, 1, 2), 5, 1, 0, 1);
        // 1/1 waits for 2, 1/2 for 4: both 2 by 1
        worst("1/1 and 1/2", line(2, 2, 2, 11, 11, 12), 5, 1, 1, 1);
        // 1/1 waits for 3, 1/2 for 4, 1/3 for 9: 3 by 1 at 1/1 and 1/3
        worst("1/1 and 1/3", line(2, 3, 3, 11, 12, 11, 12, 13), 7, 1, 1, 1);
        // one step less, and 1/1 alone is the worst; one more, and 1/3 is
        worst("1/1 alone", line(2, 3, 3, 11, 12, 12, 13), 7, 1, 1, 1);
        worst("1/3 alone", line(2, 3, 3, 11, 12, 12, 12, 13), 23, 3, 1, 3);
    }

    /** '2 RAY, 3 steps': the farthest PLACE of each ray, which waits for 135 steps against 16 of the last ray's first */
    private void worstAtTheEnd() {
        for (int ray = 0; ray < 3; ray++) {
            int next = (ray + 1) % 3;
            LineSearch x = line(3, 8, 10 * next + 8, 10 * ((ray + 2) % 3) + 8, 10 * ray + 7);
            for (int i = 0; i < 14; i++) x.trip(next, 8);
            x.trip(ray, 8);
            worst("the end of ray " + ray, x, 139, 4, ray, 8);
        }
    }

    /** 'THE WORST of THE PLAN': a full one, and the latest that there is */
    private void worstFullAndGreatest() {
        LineSearch x = line(2, 8);
        x.costs(1, 9);
        for (int i = 0; i < 29; i++) x.trip(0, 8);
        is("worst(0), one to come", x.worst(0), STATE);
        is("trip 29", x.trip(1, 8), 29);
        worst("the latest of all plans", x, 29 * 80 + 1, 1, 1, 1);
        is("way(1, 8)", x.way(1, 8), 29 * 80 + 8);
        is("late(1, 8, 0)", x.late(1, 8, 0), 291);
    }

    /** 'the greatest LATE of all PLACES': those of SHARE 0 too */
    private void worstWhateverTheShares() {
        LineSearch x = line(2, 2, 2, 12);
        for (int p = 0; p < 4; p++) x.share(p / 2, 1 + p % 2, 0);
        worst("no shares", x, 5, 1, 1, 1);
        is("leastWorst(0), no shares", x.leastWorst(0), 4);
        x.share(0, 1, 100);
        worst("one share", x, 5, 1, 1, 1);
    }

    /** 'the sum of SHARE times WAY over all PLACES (not by the sum of SHARES)' */
    private void meanNotByShares() {
        LineSearch x = line(2, 1, 1, 11);
        is("mean", x.mean(), 4);
        x.share(0, 1, 100);
        is("mean", x.mean(), 103);
        x.share(1, 1, 100);
        is("mean", x.mean(), 400);
        x.share(0, 1, 0);
        is("mean", x.mean(), 300);
        x.share(1, 1, 0);
        is("mean, no shares", x.mean(), 0);
        is("mean, full", Scene.FULL.lay().mean(), 160);
    }

    /** 'PLACES that no TRIP comes to: how many (i = -1), the i-th ..; NONE.' */
    private void missedEmptyAndNone() {
        LineSearch x = line(3, 8);
        is("missed(-1), no TRIPS", x.missed(-1), 24);
        for (int i = 0; i < 24; i++) is("missed(" + i + "), no TRIPS", x.missed(i), 10 * (i / 8) + 1 + i % 8);
        is("missed(24), no TRIPS", x.missed(24), NONE);
        go(x, 8, 18, 27);
        is("missed(-1), one left", x.missed(-1), 1);
        is("missed(0), one left", x.missed(0), 28);
        is("missed(1), one left", x.missed(1), NONE);
        go(x, 28);
        is("missed(-1), none left", x.missed(-1), 0);
        is("missed(0), none left", x.missed(0), NONE);
        x.drop();
        is("missed(-1), one left again", x.missed(-1), 1);
    }

    /** 'The first PLACE .. that a TRIP is the first to come to; NONE.' */
    private void findsJustFarther() {
        LineSearch x = line(3, 8, 4, 4, 3, 5, 14, 8, 8, 28);
        int[] want = {1, NONE, NONE, 5, 11, 6, NONE, 21};
        for (int i = 0; i < want.length; i++) is("finds(" + i + ")", x.finds(i), want[i]);
        is("finds(8)", x.finds(8), UNKNOWN);
        LineSearch full = Scene.FULL.lay();
        int[] first = {1, 11, 2, 13, 4, NONE, NONE, NONE, NONE, 15};
        for (int i = 0; i < 30; i++) is("finds(" + i + "), full", full.finds(i), i < 10 ? first[i] : NONE);
        is("finds(30), full", full.finds(30), UNKNOWN);
    }

    /** 'THE LEAST MEAN of all PLANS .. that come to all PLACES': with no SHARES every such PLAN is one */
    private void leastMeanOfNoShares() {
        LineSearch x = line(3, 8);
        for (int p = 0; p < 24; p++) x.share(p / 8, 1 + p % 8, 0);
        is("leastMean, no shares", x.leastMean(), 0);
        int[] all = new int[24];
        for (int i = 0; i < 24; i++) all[i] = 10 * (i / 8) + 1 + i % 8;
        meanPlan("no shares", x, all);
        is("take(0), no shares", x.take(0), 24);
        plan("take(0), no shares", x, all);
        is("mean, no shares", x.mean(), 0);
        is("worst(0): the last ray's first waits for both others", x.worst(0), 2 * 72 + 1);
    }

    /** 'SHARE (0 to 100 ..)', 'R 1 to 8', '1 to 9 both': the greatest of all */
    private void leastMeanGreatest() {
        LineSearch x = line(3, 8);
        x.costs(9, 9);
        for (int p = 0; p < 24; p++) x.share(p / 8, 1 + p % 8, 100);
        is("leastMean, greatest", x.leastMean(), 100 * (3 * 9 * 36 + 8 * 144 * 3));
        meanPlan("greatest", x, 8, 18, 28);
        LineSearch y = line(2, 1);
        is("leastMean, least", y.leastMean(), 1 + 3);
        meanPlan("least", y, 1, 11);
    }

    /** 'each TRIP is the first by RAYS, then steps, .. with which it can still be that mean' */
    private void leastMeanOfSeveral() {
        LineSearch x = line(2, 2);
        x.share(0, 2, 0);
        x.share(1, 2, 0);
        // 0/1, 1/1, then 0/2 and 1/2, which nothing waits for
        is("leastMean, far shares 0", x.leastMean(), 1 + 3);
        meanPlan("far shares 0", x, 1, 11, 2, 12);
        x.share(0, 1, 0);
        x.share(1, 1, 0);
        x.share(1, 2, 5);
        // 1/2 alone counts: at once, in one TRIP
        is("leastMean, 1/2 alone", x.leastMean(), 10);
        meanPlan("1/2 alone", x, 12, 1, 2);
        x.share(1, 1, 2);
        x.share(1, 2, 1);
        // 1/1 then 1/2 would have 1/2 wait
        is("leastMean, ray 1 alone", x.leastMean(), 4);
        meanPlan("ray 1 alone", x, 12, 1, 2);
        LineSearch y = line(2, 1);
        y.share(1, 1, 2);
        is("leastMean, 1/1 first", y.leastMean(), 2 + 3);
        meanPlan("1/1 first", y, 11, 1);
        y.share(0, 1, 2);
        is("leastMean, alike", y.leastMean(), 2 + 6);
        meanPlan("alike", y, 1, 11);
    }

    /** 'THE LEAST WORST': on rays of one step the last one waits for all others */
    private void leastWorstOfOneStep() {
        for (int m = 2; m <= 3; m++) {
            for (int out = 1; out <= 9; out++) {
                for (int back = 1; back <= 9; back += 4) {
                    LineSearch x = line(m, 1);
                    x.costs(out, back);
                    lowest("leastWorst", (m - 1) * (out + back) + out, out, x.leastWorst(0), x.leastWorst(1));
                    if (m == 2) worstPlan("2 rays of 1", x, 1, 11);
                    else worstPlan("3 rays of 1", x, 1, 11, 21);
                }
            }
        }
    }

    /** 'the first by RAYS, then steps, with which no PLACE need be later than that' */
    private void leastWorstOfSeveral() {
        LineSearch x = line(2, 2);
        // 0/1, 1/2, 0/2: 1/1 waits for 1, 0/2 for 3: 3 by 2; 0/2, 1/2: 1/1 waits for 2
        is("leastWorst(0)", x.leastWorst(0), 4);
        is("leastWorst(1)", x.leastWorst(1), 1);
        worstPlan("2 rays of 2", x, 1, 12, 2);
        x.rays(3, 2);
        // 0/1, 1/1 or 1/2, 2/1 or 2/2 ..: 2/1 waits for 2 at the least; 0/1, 1/1, 2/2: 0/2 waits for 4, 1/2 for 6
        // 0/1, 1/2: 2/1 waits for 3, then 0/2 for 5: 3 by 1; 0/1, 1/1, 2/2, 0/2, 1/2: 3 by 1
        is("leastWorst(0), 3 rays of 2", x.leastWorst(0), 7);
        is("leastWorst(1), 3 rays of 2", x.leastWorst(1), 1);
        // of all with 3 by 1 the first: 0/1, 1/1, then 0/2 would have 2/1 wait for 4; so would 0/1, 1/1, 1/2; 2/1:
        // then 0/2 waits for 3, 1/2 for 5, 2/2 for 7, which is more than 6; so 2/2: 0/2 for 4, 1/2 for 6
        worstPlan("3 rays of 2", x, 1, 11, 22, 2, 12);
    }

    /** 'none LATE by more than a told fraction': just that is within, the next one below is not */
    private void withinJust() {
        LineSearch x = line(2, 1);
        is("within(3, 1)", x.within(3, 1), 1);
        is("within(2, 1)", x.within(2, 1), 0);
        is("within(9999, 3333), just", x.within(9999, 3333), 1);
        is("within(9998, 3333), just not", x.within(9998, 3333), 0);
        is("within(10000, 3333)", x.within(10000, 3333), 1);
        is("within(10000, 3334)", x.within(10000, 3334), 0);
        x.costs(9, 1);
        // 19 by 9
        is("within(19, 9)", x.within(19, 9), 1);
        is("within(9994, 4734), just", x.within(9994, 4734), 1);
        is("within(9993, 4734)", x.within(9993, 4734), 0);
        is("within(9994, 4735)", x.within(9994, 4735), 0);
        is("within(10000, 4736)", x.within(10000, 4736), 1);
        is("within(10000, 4737)", x.within(10000, 4737), 0);
        x.rays(3, 8);
        x.costs(1, 9);
        is("within(10000, 1), late at its greatest", x.within(10000, 1), 1);
        is("within(1, 1): the second TRIP is always late", x.within(1, 1), 0);
        is("within(10000, 9999)", x.within(10000, 9999), 0);
    }

    /** 'WITHIN: whether there is a PLAN ..': so from THE LEAST WORST on, for all grounds and costs */
    private void withinIffLeastWorst() {
        for (int m = 2; m <= 3; m++) {
            for (int reach = 1; reach <= 8; reach++) {
                for (int out = 1; out <= 9; out += 2) {
                    LineSearch x = line(m, reach);
                    x.costs(out, 10 - out);
                    int upper = x.leastWorst(0);
                    int lower = x.leastWorst(1);
                    int most = Math.min(10000 / upper, 10000 / lower);
                    is("within, just", x.within(upper, lower), 1);
                    is("within, just, of greater numbers", x.within(most * upper, most * lower), 1);
                    is("within, a little less", x.within(most * upper - 1, most * lower), 0);
                    is("within, by a little more", x.within(most * upper, most * lower + 1), 0);
                    is("take(1)", x.take(1) > 0 ? 1 : 0, 1);
                    is("worst(0) of it", x.worst(0), upper);
                    is("worst(1) of it", x.worst(1), lower);
                }
            }
        }
    }

    /** 'of all PLANS': THE PLAN at hand is of no account, empty or full */
    private void bestsWhateverThePlan() {
        LineSearch empty = Scene.NEW.lay();
        LineSearch full = Scene.FULL.lay();
        is("leastMean, no TRIPS", empty.leastMean(), 80);
        is("leastMean, full", full.leastMean(), 80);
        is("leastWorst(0), full", full.leastWorst(0), 27);
        meanPlan("full", full, 5, 15);
        worstPlan("full", full, 2, 14, 5, 15);
        is("within(27, 5), full", full.within(27, 5), 1);
        is("told(4), full", full.told(4), 30);
    }

    /** What THE LEAST MEAN and THE LEAST WORST hang on may change between two askings. */
    private void bestsKnownAnew() {
        LineSearch x = line(2, 1);
        is("leastMean", x.leastMean(), 4);
        is("leastWorst(0)", x.leastWorst(0), 3);
        x.costs(1, 9);
        is("leastMean, costs", x.leastMean(), 1 + 11);
        is("leastWorst(0), costs", x.leastWorst(0), 11);
        x.share(1, 1, 3);
        is("leastMean, share", x.leastMean(), 3 + 11);
        meanPlan("share", x, 11, 1);
        x.share(1, 1, 3);
        is("leastMean, the same share", x.leastMean(), 3 + 11);
        is("leastMean after a refused share", x.share(1, 1, 101) == -2 ? x.leastMean() : 0, 14);
        x.rays(2, 1);
        is("leastMean, the same rays anew", x.leastMean(), 12);
        meanPlan("the same rays anew", x, 1, 11);
        x.rays(3, 1);
        is("leastMean, a ray more", x.leastMean(), 1 + 11 + 21);
        is("leastWorst(0), a ray more", x.leastWorst(0), 21);
        x.rays(3, 2);
        is("leastWorst(0), a step more", x.leastWorst(0), 31);
        x.rays(2, 2);
        is("leastWorst(0), a ray less", x.leastWorst(0), 16);
    }

    /** 'THE PLAN becomes that of ..: how many TRIPS.' */
    private void takeOnEmptyAndFull() {
        for (Scene scene : List.of(Scene.NEW, Scene.FULL)) {
            LineSearch x = scene.lay();
            is("take(0)", x.take(0), 2);
            plan(scene.name + ": take(0)", x, 5, 15);
            is("take(0) again", x.take(0), 2);
            plan(scene.name + ": take(0) again", x, 5, 15);
            is("take(1)", x.take(1), 4);
            plan(scene.name + ": take(1)", x, 2, 14, 5, 15);
            is("missed(-1)", x.missed(-1), 0);
            is("take(0) behind take(1)", x.take(0), 2);
            plan(scene.name + ": take(0) behind take(1)", x, 5, 15);
        }
        LineSearch y = line(2, 1);
        is("take(0), least", y.take(0), 2);
        is("take(1), least", y.take(1), 2);
        plan("least", y, 1, 11);
    }

    /** '30 at most', of a plan that was taken too */
    private void takeThenMore() {
        LineSearch x = line(3, 8);
        for (int p = 0; p < 24; p++) x.share(p / 8, 1 + p % 8, 0);
        is("take(0)", x.take(0), 24);
        for (int i = 24; i < 30; i++) is("trip behind it", x.trip(2, 8), i);
        is("one more", x.trip(2, 8), FULL);
        is("take(0) of a full plan", x.take(0), 24);
        is("tripOf(24, 0)", x.tripOf(24, 0), UNKNOWN);
        is("trip behind it", x.trip(0, 1), 24);
    }

    /** What becomes of THE PLAN once it was taken is of no account for the bests. */
    private void takeLeavesTheBests() {
        LineSearch x = new LineSearch();
        x.take(1);
        x.drop();
        x.drop();
        go(x, 11);
        worstPlan("altered", x, 2, 14, 5, 15);
        x.take(0);
        x.clear();
        meanPlan("cleared", x, 5, 15);
        is("take(0) again", x.take(0), 2);
        plan("take(0) again", x, 5, 15);
    }

    /** 'both ..; NONE', 'end ..': of no TRIPS */
    private void bothOfEmpty() {
        LineSearch x = new LineSearch();
        for (int p = 0; p < 10; p++) for (int w = 0; w < 5; w++) is("both, no TRIPS", x.both(p / 5, 1 + p % 5, w), NONE);
        is("end, no TRIPS", x.end(), 0);
    }

    private void both(String what, LineSearch x, int place, int... want) {
        for (int w = 0; w < 5; w++) is("both(" + place + ", " + w + "), " + what, x.both(place / 10, place % 10, w), want[w]);
    }

    /** 'one tries TRIPS 0, 2, 4 .., the other one 1, 3, 5 ..': of one TRIP the other one has none */
    private void bothOfOneTrip() {
        LineSearch x = line(2, 5, 13);
        x.costs(2, 3);
        both("one TRIP", x, 11, 2, 15, 0, 1, 1);
        both("one TRIP", x, 13, 6, 15, 0, 1, 1);
        both("one TRIP", x, 14, NONE, NONE, NONE, NONE, NONE);
        both("one TRIP", x, 1, NONE, NONE, NONE, NONE, NONE);
        is("end", x.end(), 15);
        go(x, 4);
        both("two TRIPS", x, 1, 2, 20, 1, 1, 1);
        both("two TRIPS", x, 4, 8, 20, 1, 1, 1);
        is("end", x.end(), 20);
        go(x, 15);
        both("three TRIPS", x, 15, 25, 40, 0, 5, 2);
        go(x, 15);
        both("four TRIPS: the other one is later", x, 15, 25, 40, 0, 5, 2);
        is("end", x.end(), 45);
    }

    /** 'of both at once the first' */
    private void bothAtOnce() {
        LineSearch x = line(2, 5, 3, 5);
        // both set out on ray 0 at once
        for (int s = 1; s <= 3; s++) both("at once", x, s, s, 6, 0, 1, 1);
        for (int s = 4; s <= 5; s++) both("the other one goes on", x, s, s, 10, 1, 1, 1);
        x = line(2, 5, 1, 11, 13, 12, 15, 15);
        // 0: 0/1 till 2, 1/3 till 8, 1/5 till 18; 1: 1/1 till 2, 1/2 till 6, 1/5 till 16
        both("at once, later", x, 12, 4, 8, 0, 2, 1);
        both("0 alone", x, 13, 5, 8, 0, 5, 3);
        both("1 is earlier", x, 14, 10, 16, 1, 5, 2);
        both("1 was there first", x, 11, 1, 2, 1, 1, 1);
    }

    /** 'MET is a PLACE as soon as one of them comes to it': one step of a trip ahead is enough */
    private void bothJustAhead() {
        LineSearch x = line(2, 5, 2, 1, 15, 15);
        // 0 sets out on ray 1 at 4, 1 at 2
        both("1 a trip of 1 ahead", x, 11, 3, 12, 1, 3, 1);
        x = line(2, 5, 1, 2, 15, 15);
        both("0 a trip of 1 ahead", x, 11, 3, 12, 0, 3, 1);
        x = line(2, 5, 2, 2, 15, 15);
        both("at once", x, 11, 5, 14, 0, 5, 1);
        x = line(2, 5, 5, 1, 11, 1, 1, 12);
        // 0 comes to ray 1 at 10, 1 at 4: even though 0's TRIP has the smaller number
        both("the later TRIP is the first there", x, 11, 5, 8, 1, 5, 1);
    }

    /** 'TOLD, as soon as that one is back': not the other one, even if he is back sooner */
    private void bothToldByThatOne() {
        LineSearch x = line(2, 8, 8, 1);
        x.costs(1, 9);
        both("1 is back sooner", x, 1, 1, 80, 0, 1, 1);
        is("end", x.end(), 80);
        LineSearch y = line(2, 8, 1, 8);
        y.costs(9, 1);
        both("0 is back", y, 1, 9, 10, 0, 1, 1);
        both("1 turns at the place itself", y, 8, 72, 80, 1, 1, 1);
    }

    /** 'When the later one of both is back from all TRIPS.' */
    private void endOfFewAndFull() {
        is("end, no TRIPS", line(2, 5).end(), 0);
        is("end, one", line(2, 5, 5).end(), 10);
        is("end, two, 0 later", line(2, 5, 5, 14).end(), 10);
        is("end, two, 1 later", line(2, 5, 4, 15).end(), 10);
        is("end, two, at once", line(2, 5, 4, 14).end(), 8);
        is("end, full", Scene.FULL.lay().end(), 90);
        is("end, dearest", Scene.LARGEST.lay().end(), 15 * 144);
        LineSearch x = line(2, 8);
        for (int i = 0; i < 30; i++) x.trip(0, i % 2 == 0 ? 1 : 8);
        is("end, 1 much later", x.end(), 15 * 16);
        x.costs(9, 9);
        is("end, 1 much later, dearest", x.end(), 15 * 144);
    }

    /** '4 TRIPS, 5 all SHARES together, 6 what all TRIPS cost' */
    private void toldOfEmptyAndFull() {
        LineSearch x = Scene.LARGEST.lay();
        is("told(4), full", x.told(4), 30);
        is("told(5), greatest", x.told(5), 2400);
        is("told(6), dearest", x.told(6), 30 * 144);
        x.clear();
        is("told(4), empty", x.told(4), 0);
        is("told(5), stays", x.told(5), 2400);
        is("told(6), empty", x.told(6), 0);
    }

    /** 'An object is used for at most 512 calls': the last of them is answered as the first */
    private void all512Calls() {
        LineSearch x = new LineSearch();
        for (int round = 0; round < 8; round++) {
            for (int i = 0; i < 30; i++) is("trip", x.trip(1, 5), i);
            is("trip, full", x.trip(1, 5), FULL);
            for (int i = 29; i >= 0; i--) is("drop", x.drop(), i);
            is("drop, empty", x.drop(), UNKNOWN);
            is("leastMean", x.leastMean(), 80);
            is("share", x.share(0, 1, 1), 1);
        }
        LineSearch y = new LineSearch();
        for (int call = 1; call < 512; call++) is("rays, call " + call, y.rays(2, 8), 16);
        is("call 512", y.leastWorst(0), 6);
    }

    /** The same, where every call has to seek a best anew. */
    private void dear512Calls() {
        LineSearch x = line(3, 8);
        for (int round = 0; round < 255; round++) {
            is("share", x.share(2, 8, 1 + (round + 1) % 2), 1 + round % 2);
            // 24 or 25 SHARES of 1; the ray with the heavier one goes first
            is("leastMean", x.leastMean(), round % 2 == 0 ? 3 * 36 + 8 + 16 * (8 + 8 + 8) : 3 * 36 + 16 * 24);
        }
        LineSearch y = new LineSearch();
        for (int round = 0; round < 256; round++) {
            is("rays", y.rays(3, round % 2 + 1), 3 * (round % 2 + 1));
            is("leastWorst(0)", y.leastWorst(0), round % 2 == 0 ? 5 : 7);
        }
    }

    /** 'Nothing is promised beyond the answers and state changes described above': calls that only ask change nothing */
    private void readingChangesNothing() {
        Scene.Call[] calls = {
            x -> x.shareOf(0, 1), x -> x.tripOf(0, 2), x -> x.way(1, 1), x -> x.late(1, 1, 1), x -> x.worst(0), LineSearch::mean,
            x -> x.missed(-1), x -> x.missed(0), x -> x.finds(0), LineSearch::leastMean, x -> x.meanTrip(1), x -> x.leastWorst(1),
            x -> x.worstTrip(1), x -> x.within(3, 1), x -> x.both(0, 1, 1), LineSearch::end, x -> x.told(6)
        };
        for (Scene scene : Scene.ALL) {
            for (int i = 0; i < calls.length; i++) {
                LineSearch x = scene.lay();
                int first = calls[i].on(x);
                is(scene.name + ": asked again", calls[i].on(x), first);
                due.holds(Scene.pictureOf(x).equals(scene.picture()), scene.name + ": reading call " + i + " changed something");
            }
        }
    }

    /** Two objects have nothing in common. */
    private void objectsApart() {
        LineSearch x = Scene.HALF.lay();
        LineSearch y = Scene.LARGEST.lay();
        LineSearch z = new LineSearch();
        due.holds(Scene.pictureOf(x).equals(Scene.HALF.picture()), "half is not as if alone");
        due.holds(Scene.pictureOf(y).equals(Scene.LARGEST.picture()), "largest is not as if alone");
        due.holds(Scene.pictureOf(z).equals(Scene.NEW.picture()), "new is not as if alone");
    }
}
