import java.util.ArrayList;
import java.util.List;

/**
 * Every bound of the document from both sides, and every refusal: the last number that is taken, the first
 * that is refused, the least and the greatest int, two grounds at once, and that nothing changes by it.
 */
public final class BoundTests {
    private static final int LOW = Integer.MIN_VALUE;
    private static final int HIGH = Integer.MAX_VALUE;
    private static final int NONE = -6, UNKNOWN = -1, OUTSIDE = -2, STATE = -3, FULL = -4;

    private interface With {
        int on(LineSearch x, int v);
    }

    private interface At {
        int on(LineSearch x, int ray, int steps);
    }

    private final Due due = new Due("bounds");

    public static void main(String[] args) {
        BoundTests tests = new BoundTests();
        tests.raysOfRays();
        tests.stepsOfRays();
        tests.raysOutsideTwice();
        tests.outOfCosts();
        tests.backOfCosts();
        tests.costsOutsideTwice();
        tests.shareOfShare();
        tests.placesOfAllCalls();
        tests.placesComeAndGoWithRays();
        tests.tripsOfTripOf();
        tests.whatOfTripOf();
        tests.dropOfNone();
        tests.whatOfLate();
        tests.whatOfWorst();
        tests.stateOfWorst();
        tests.stateOfMean();
        tests.numbersOfMissed();
        tests.tripsOfFinds();
        tests.numbersOfMeanTrip();
        tests.whatOfLeastWorst();
        tests.numbersOfWorstTrip();
        tests.upperOfWithin();
        tests.lowerOfWithin();
        tests.withinOutsideTwice();
        tests.whichOfTake();
        tests.whatOfBoth();
        tests.whatOfTold();
        tests.fullOfTrip();
        tests.unknownAheadOfOutside();
        tests.unknownAheadOfFull();
        tests.outsideAheadOfState();
        tests.outsideThoughThereIsNone();
        tests.due.close();
    }

    private void is(String what, int got, int want) {
        due.is(what, got, want);
    }

    /** The call answers so, and the object is as one that was never asked. */
    private void refused(String what, Scene scene, int want, Scene.Call call) {
        LineSearch x = scene.lay();
        is(scene.name + ": " + what, call.on(x), want);
        due.holds(Scene.pictureOf(x).equals(scene.picture()), scene.name + ": " + what + " was refused, but changed something");
    }

    /** Next to the bounds, the ends of int, and numbers that are right but for their higher bits. */
    private static List<Integer> outside(int low, int high) {
        List<Integer> numbers = new ArrayList<>(List.of(low - 1, high + 1, LOW, HIGH, LOW + 1, HIGH - 1));
        for (int bit = 8; bit < 32; bit++) {
            int v = low + (1 << bit);
            if (v < low || v > high) numbers.add(v);
        }
        for (int v : new int[] {-low, -high, ~low, ~high}) if (v < low || v > high) numbers.add(v);
        return numbers;
    }

    private void taken(String what, Scene scene, int v, int want, With call) {
        is(scene.name + ": " + what + " with " + v, call.on(scene.lay(), v), want);
    }

    private void refusedOutside(String what, Scene scene, int low, int high, int want, With call) {
        for (int v : outside(low, high)) refused(what + " with " + v, scene, want, x -> call.on(x, v));
    }

    private void refusedOutsideEverywhere(String what, int low, int high, int want, With call) {
        for (Scene scene : Scene.ALL) refusedOutside(what, scene, low, high, want, call);
    }

    // ---- 'RAYS 0 to m - 1 (m 2 or 3 ..); PLACES on each are 1 to R steps out (R 1 to 8 ..)'

    private void raysOfRays() {
        taken("rays(m, 5)", Scene.HALF, 2, 10, (x, v) -> x.rays(v, 5));
        taken("rays(m, 5)", Scene.HALF, 3, 15, (x, v) -> x.rays(v, 5));
        refusedOutsideEverywhere("rays(m, 5)", 2, 3, OUTSIDE, (x, v) -> x.rays(v, 5));
    }

    private void stepsOfRays() {
        for (int m = 2; m <= 3; m++) {
            int rays = m;
            taken("rays(" + m + ", steps)", Scene.HALF, 1, m, (x, v) -> x.rays(rays, v));
            taken("rays(" + m + ", steps)", Scene.HALF, 8, 8 * m, (x, v) -> x.rays(rays, v));
            refusedOutsideEverywhere("rays(" + m + ", steps)", 1, 8, OUTSIDE, (x, v) -> x.rays(rays, v));
        }
    }

    private void raysOutsideTwice() {
        for (int m : new int[] {1, 4, LOW, HIGH}) {
            for (int s : new int[] {0, 9, LOW, HIGH}) refused("rays, both wrong", Scene.HALF, OUTSIDE, x -> x.rays(m, s));
        }
    }

    // ---- 'A step out costs OUT, a step back costs BACK (1 to 9 both ..)'

    private void outOfCosts() {
        for (int out : new int[] {1, 9}) {
            LineSearch x = Scene.FULL.lay();
            is("costs(out, 1)", x.costs(out, 1), 1);
            is("told(2)", x.told(2), out);
            is("told(3)", x.told(3), 1);
            is("told(6)", x.told(6), 90 * (out + 1));
        }
        refusedOutsideEverywhere("costs(out, 1)", 1, 9, OUTSIDE, (x, v) -> x.costs(v, 1));
        refusedOutside("costs(out, 9)", Scene.HALF, 1, 9, OUTSIDE, (x, v) -> x.costs(v, 9));
    }

    private void backOfCosts() {
        for (int back : new int[] {1, 9}) {
            LineSearch x = Scene.FULL.lay();
            is("costs(1, back)", x.costs(1, back), 1);
            is("told(2)", x.told(2), 1);
            is("told(3)", x.told(3), back);
            is("told(6)", x.told(6), 90 * (1 + back));
        }
        refusedOutsideEverywhere("costs(1, back)", 1, 9, OUTSIDE, (x, v) -> x.costs(1, v));
        refusedOutside("costs(9, back)", Scene.HALF, 1, 9, OUTSIDE, (x, v) -> x.costs(9, v));
    }

    private void costsOutsideTwice() {
        for (int out : new int[] {0, 10, LOW, HIGH}) {
            for (int back : new int[] {0, 10, LOW, HIGH}) refused("costs, both wrong", Scene.HALF, OUTSIDE, x -> x.costs(out, back));
        }
    }

    // ---- 'Each PLACE has a SHARE (0 to 100 ..)'

    private void shareOfShare() {
        for (int v : new int[] {0, 1, 99, 100}) {
            LineSearch x = Scene.HALF.lay();
            is("share(2, 4, " + v + ")", x.share(2, 4, v), 100);
            is("shareOf(2, 4)", x.shareOf(2, 4), v);
            is("told(5)", x.told(5), 16 + v);
            is("share(0, 1, " + v + ")", x.share(0, 1, v), 0);
            is("shareOf(0, 1)", x.shareOf(0, 1), v);
        }
        refusedOutsideEverywhere("share(0, 1, v)", 0, 100, OUTSIDE, (x, v) -> x.share(0, 1, v));
        refusedOutside("share(2, 4, v)", Scene.HALF, 0, 100, OUTSIDE, (x, v) -> x.share(2, 4, v));
    }

    // ---- 'UNKNOWN -1 (there is no such RAY, PLACE, TRIP)'

    private void placesOfAllCalls() {
        places("share", (x, ray, steps) -> x.share(ray, steps, 50));
        places("shareOf", LineSearch::shareOf);
        places("trip", LineSearch::trip);
        places("way", LineSearch::way);
        places("late", (x, ray, steps) -> x.late(ray, steps, 0));
        places("late", (x, ray, steps) -> x.late(ray, steps, 1));
        for (int w = 0; w < 5; w++) {
            int what = w;
            places("both", (x, ray, steps) -> x.both(ray, steps, what));
        }
    }

    private void places(String name, At call) {
        for (Scene scene : Scene.ALL) {
            int last = scene.rays - 1;
            int end = scene.reach;
            int[][] corners = {{0, 1}, {0, end}, {last, 1}, {last, end}};
            for (int[] p : corners) {
                int got = call.on(scene.lay(), p[0], p[1]);
                due.holds(got != UNKNOWN && got != OUTSIDE, scene.name + ": " + name + " knows no " + p[0] + "/" + p[1]);
            }
            for (int s : new int[] {1, end}) {
                refusedOutside(name + "(ray, " + s + ")", scene, 0, last, UNKNOWN, (x, v) -> call.on(x, v, s));
            }
            for (int ray : new int[] {0, last}) {
                refusedOutside(name + "(" + ray + ", steps)", scene, 1, end, UNKNOWN, (x, v) -> call.on(x, ray, v));
            }
            for (int ray : new int[] {-1, last + 1, LOW, HIGH}) {
                for (int s : new int[] {0, end + 1, LOW, HIGH}) {
                    refused(name + ", both wrong", scene, UNKNOWN, x -> call.on(x, ray, s));
                }
            }
        }
    }

    private void placesComeAndGoWithRays() {
        LineSearch x = new LineSearch();
        is("trip(2, 1) on a line", x.trip(2, 1), UNKNOWN);
        x.rays(3, 8);
        is("trip(2, 8) on 3 rays of 8", x.trip(2, 8), 0);
        x.share(2, 8, 70);
        x.share(1, 8, 60);
        x.rays(2, 7);
        is("trip(2, 1) on a line again", x.trip(2, 1), UNKNOWN);
        is("trip(1, 8) on rays of 7", x.trip(1, 8), UNKNOWN);
        is("shareOf(1, 8) on rays of 7", x.shareOf(1, 8), UNKNOWN);
        is("told(5)", x.told(5), 14);
        x.rays(3, 8);
        is("shareOf(2, 8), laid anew", x.shareOf(2, 8), 1);
        is("shareOf(1, 8), laid anew", x.shareOf(1, 8), 1);
        is("told(5)", x.told(5), 24);
    }

    private void tripsOfTripOf() {
        int[] ray = {1, 0, 1, 2, 0};
        int[] steps = {2, 3, 1, 1, 3};
        int[] ahead = {0, 10, 25, 30, 35};
        for (int i : new int[] {0, 4}) {
            taken("tripOf(i, 0)", Scene.HALF, i, ray[i], (x, v) -> x.tripOf(v, 0));
            taken("tripOf(i, 1)", Scene.HALF, i, steps[i], (x, v) -> x.tripOf(v, 1));
            taken("tripOf(i, 2)", Scene.HALF, i, ahead[i], (x, v) -> x.tripOf(v, 2));
        }
        taken("tripOf(i, 0)", Scene.FULL, 29, 1, (x, v) -> x.tripOf(v, 0));
        taken("tripOf(i, 1)", Scene.FULL, 29, 5, (x, v) -> x.tripOf(v, 1));
        taken("tripOf(i, 2)", Scene.FULL, 29, 170, (x, v) -> x.tripOf(v, 2));
        for (Scene scene : Scene.ALL) {
            for (int w = 0; w < 3; w++) {
                int what = w;
                refusedOutside("tripOf(i, " + w + ")", scene, 0, scene.trips - 1, UNKNOWN, (x, v) -> x.tripOf(v, what));
            }
        }
    }

    private void whatOfTripOf() {
        for (Scene scene : List.of(Scene.HALF, Scene.ASKED, Scene.FULL, Scene.LARGEST)) {
            refusedOutside("tripOf(0, what)", scene, 0, 2, OUTSIDE, (x, v) -> x.tripOf(0, v));
            refusedOutside("tripOf(last, what)", scene, 0, 2, OUTSIDE, (x, v) -> x.tripOf(scene.trips - 1, v));
        }
    }

    private void dropOfNone() {
        refused("drop()", Scene.NEW, UNKNOWN, LineSearch::drop);
        refused("drop()", Scene.LEAST, UNKNOWN, LineSearch::drop);
        LineSearch x = Scene.HALF.lay();
        for (int left = 4; left >= 0; left--) is("drop()", x.drop(), left);
        is("drop() of none", x.drop(), UNKNOWN);
        x = Scene.HALF.lay();
        x.clear();
        is("drop() behind clear()", x.drop(), UNKNOWN);
        x = Scene.HALF.lay();
        x.rays(2, 5);
        is("drop() behind rays()", x.drop(), UNKNOWN);
    }

    private void whatOfLate() {
        taken("late(2, 1, what)", Scene.HALF, 0, 16, (x, v) -> x.late(2, 1, v));
        taken("late(2, 1, what)", Scene.HALF, 1, 1, (x, v) -> x.late(2, 1, v));
        refusedOutsideEverywhere("late(0, 1, what)", 0, 1, OUTSIDE, (x, v) -> x.late(0, 1, v));
    }

    private void whatOfWorst() {
        taken("worst(what)", Scene.FULL, 0, 11, LineSearch::worst);
        taken("worst(what)", Scene.FULL, 1, 1, LineSearch::worst);
        taken("worst(what)", Scene.FULL, 2, 1, LineSearch::worst);
        taken("worst(what)", Scene.FULL, 3, 5, LineSearch::worst);
        refusedOutsideEverywhere("worst(what)", 0, 3, OUTSIDE, LineSearch::worst);
    }

    private void stateOfWorst() {
        for (Scene scene : List.of(Scene.NEW, Scene.HALF, Scene.ASKED, Scene.LARGEST, Scene.LEAST)) {
            for (int w = 0; w < 4; w++) {
                int what = w;
                refused("worst(" + w + ")", scene, STATE, x -> x.worst(what));
            }
        }
        LineSearch x = Scene.LEAST.lay();
        x.trip(1, 1);
        is("worst(0), 0/1 missed", x.worst(0), STATE);
        x.trip(0, 1);
        is("worst(0), none missed", x.worst(0), 3);
        x.drop();
        is("worst(0), 0/1 missed again", x.worst(0), STATE);
    }

    private void stateOfMean() {
        for (Scene scene : List.of(Scene.NEW, Scene.HALF, Scene.ASKED, Scene.LARGEST, Scene.LEAST)) {
            refused("mean()", scene, STATE, LineSearch::mean);
        }
        LineSearch x = Scene.LEAST.lay();
        x.share(0, 1, 0);
        x.share(1, 1, 0);
        is("mean(), no shares, all missed", x.mean(), STATE);
        x.trip(1, 1);
        is("mean(), no shares, 0/1 missed", x.mean(), STATE);
        x.trip(0, 1);
        is("mean(), no shares, none missed", x.mean(), 0);
    }

    private void numbersOfMissed() {
        taken("missed(i)", Scene.HALF, -1, 6, LineSearch::missed);
        int[] half = {4, 13, 14, 22, 23, 24};
        for (int i = 0; i < half.length; i++) taken("missed(i)", Scene.HALF, i, half[i], LineSearch::missed);
        refusedOutside("missed(i)", Scene.HALF, -1, 5, NONE, LineSearch::missed);
        taken("missed(i)", Scene.NEW, -1, 10, LineSearch::missed);
        for (int i = 0; i < 10; i++) taken("missed(i)", Scene.NEW, i, 10 * (i / 5) + 1 + i % 5, LineSearch::missed);
        refusedOutside("missed(i)", Scene.NEW, -1, 9, NONE, LineSearch::missed);
        taken("missed(i)", Scene.FULL, -1, 0, LineSearch::missed);
        refusedOutside("missed(i)", Scene.FULL, -1, -1, NONE, LineSearch::missed);
        taken("missed(i)", Scene.LARGEST, -1, 8, LineSearch::missed);
        for (int i = 0; i < 8; i++) taken("missed(i)", Scene.LARGEST, i, 21 + i, LineSearch::missed);
        refusedOutside("missed(i)", Scene.LARGEST, -1, 7, NONE, LineSearch::missed);
    }

    private void tripsOfFinds() {
        taken("finds(i)", Scene.HALF, 0, 11, LineSearch::finds);
        taken("finds(i)", Scene.HALF, 4, NONE, LineSearch::finds);
        taken("finds(i)", Scene.FULL, 0, 1, LineSearch::finds);
        taken("finds(i)", Scene.FULL, 9, 15, LineSearch::finds);
        taken("finds(i)", Scene.FULL, 29, NONE, LineSearch::finds);
        for (Scene scene : Scene.ALL) refusedOutside("finds(i)", scene, 0, scene.trips - 1, UNKNOWN, LineSearch::finds);
    }

    private void numbersOfMeanTrip() {
        taken("meanTrip(i)", Scene.NEW, 0, 5, LineSearch::meanTrip);
        taken("meanTrip(i)", Scene.NEW, 1, 15, LineSearch::meanTrip);
        for (Scene scene : List.of(Scene.NEW, Scene.FULL)) refusedOutside("meanTrip(i)", scene, 0, 1, NONE, LineSearch::meanTrip);
        taken("meanTrip(i)", Scene.LEAST, 0, 1, LineSearch::meanTrip);
        taken("meanTrip(i)", Scene.LEAST, 1, 11, LineSearch::meanTrip);
        refusedOutside("meanTrip(i)", Scene.LEAST, 0, 1, NONE, LineSearch::meanTrip);
    }

    private void numbersOfWorstTrip() {
        int[] line = {2, 14, 5, 15};
        for (int i = 0; i < line.length; i++) taken("worstTrip(i)", Scene.NEW, i, line[i], LineSearch::worstTrip);
        for (Scene scene : List.of(Scene.NEW, Scene.FULL)) refusedOutside("worstTrip(i)", scene, 0, 3, NONE, LineSearch::worstTrip);
        taken("worstTrip(i)", Scene.LEAST, 0, 1, LineSearch::worstTrip);
        taken("worstTrip(i)", Scene.LEAST, 1, 11, LineSearch::worstTrip);
        refusedOutside("worstTrip(i)", Scene.LEAST, 0, 1, NONE, LineSearch::worstTrip);
    }

    private void whatOfLeastWorst() {
        taken("leastWorst(what)", Scene.NEW, 0, 27, LineSearch::leastWorst);
        taken("leastWorst(what)", Scene.NEW, 1, 5, LineSearch::leastWorst);
        refusedOutsideEverywhere("leastWorst(what)", 0, 1, OUTSIDE, LineSearch::leastWorst);
    }

    // ---- 'WITHIN p by q (1 to 10000 both)'

    private void upperOfWithin() {
        taken("within(p, 1)", Scene.LEAST, 1, 0, (x, v) -> x.within(v, 1));
        taken("within(p, 1)", Scene.LEAST, 10000, 1, (x, v) -> x.within(v, 1));
        taken("within(p, 10000)", Scene.LEAST, 1, 0, (x, v) -> x.within(v, 10000));
        taken("within(p, 10000)", Scene.LEAST, 10000, 0, (x, v) -> x.within(v, 10000));
        refusedOutsideEverywhere("within(p, 1)", 1, 10000, OUTSIDE, (x, v) -> x.within(v, 1));
        refusedOutside("within(p, 10000)", Scene.HALF, 1, 10000, OUTSIDE, (x, v) -> x.within(v, 10000));
    }

    private void lowerOfWithin() {
        taken("within(1, q)", Scene.LEAST, 1, 0, (x, v) -> x.within(1, v));
        taken("within(10000, q)", Scene.LEAST, 1, 1, (x, v) -> x.within(10000, v));
        taken("within(10000, q)", Scene.LEAST, 10000, 0, (x, v) -> x.within(10000, v));
        refusedOutsideEverywhere("within(1, q)", 1, 10000, OUTSIDE, (x, v) -> x.within(1, v));
        refusedOutside("within(10000, q)", Scene.HALF, 1, 10000, OUTSIDE, (x, v) -> x.within(10000, v));
    }

    private void withinOutsideTwice() {
        for (int p : new int[] {0, 10001, LOW, HIGH}) {
            for (int q : new int[] {0, 10001, LOW, HIGH}) refused("within, both wrong", Scene.HALF, OUTSIDE, x -> x.within(p, q));
        }
    }

    private void whichOfTake() {
        taken("take(which)", Scene.NEW, 0, 2, LineSearch::take);
        taken("take(which)", Scene.NEW, 1, 4, LineSearch::take);
        taken("take(which)", Scene.FULL, 0, 2, LineSearch::take);
        taken("take(which)", Scene.FULL, 1, 4, LineSearch::take);
        refusedOutsideEverywhere("take(which)", 0, 1, OUTSIDE, LineSearch::take);
    }

    private void whatOfBoth() {
        int[] want = {17, 20, 1, 17, 2};
        for (int w = 0; w < 5; w++) taken("both(2, 1, what)", Scene.HALF, w, want[w], (x, v) -> x.both(2, 1, v));
        refusedOutsideEverywhere("both(0, 1, what)", 0, 4, OUTSIDE, (x, v) -> x.both(0, 1, v));
    }

    private void whatOfTold() {
        int[] half = {3, 4, 2, 3, 5, 116, 50};
        int[] largest = {3, 8, 9, 9, 30, 2400, 4320};
        int[] least = {2, 1, 1, 1, 0, 2, 0};
        for (int w = 0; w < 7; w++) {
            taken("told(what)", Scene.HALF, w, half[w], LineSearch::told);
            taken("told(what)", Scene.LARGEST, w, largest[w], LineSearch::told);
            taken("told(what)", Scene.LEAST, w, least[w], LineSearch::told);
        }
        refusedOutsideEverywhere("told(what)", 0, 6, OUTSIDE, LineSearch::told);
    }

    // ---- 'A PLAN has TRIPS, 30 at most'

    private void fullOfTrip() {
        for (Scene scene : List.of(Scene.FULL, Scene.LARGEST)) {
            for (int ray = 0; ray < scene.rays; ray++) {
                for (int s = 1; s <= scene.reach; s++) {
                    int toRay = ray;
                    int toSteps = s;
                    refused("trip(" + ray + ", " + s + ")", scene, FULL, x -> x.trip(toRay, toSteps));
                }
            }
        }
        LineSearch x = Scene.FULL.lay();
        is("drop() of 30", x.drop(), 29);
        is("trip(0, 1), one is left", x.trip(0, 1), 29);
        is("trip(0, 1), full again", x.trip(0, 1), FULL);
        is("told(4)", x.told(4), 30);
    }

    // ---- 'Calls that are refused answer, the first of these that fits'

    private void unknownAheadOfOutside() {
        for (int v : new int[] {-1, 101, LOW, HIGH}) unknownWith("share, no such v", (x, ray, s) -> x.share(ray, s, v));
        for (int w : new int[] {-1, 2, LOW, HIGH}) unknownWith("late, no such what", (x, ray, s) -> x.late(ray, s, w));
        for (int w : new int[] {-1, 5, LOW, HIGH}) unknownWith("both, no such what", (x, ray, s) -> x.both(ray, s, w));
        for (Scene scene : Scene.ALL) {
            for (int i : new int[] {-1, scene.trips, LOW, HIGH}) {
                for (int w : new int[] {-1, 3, LOW, HIGH}) {
                    refused("tripOf(" + i + ", " + w + ")", scene, UNKNOWN, x -> x.tripOf(i, w));
                }
            }
        }
    }

    private void unknownWith(String name, At call) {
        for (Scene scene : Scene.ALL) {
            for (int ray : new int[] {-1, scene.rays, LOW, HIGH}) refused(name, scene, UNKNOWN, x -> call.on(x, ray, 1));
            for (int s : new int[] {0, scene.reach + 1, LOW, HIGH}) refused(name, scene, UNKNOWN, x -> call.on(x, 0, s));
        }
    }

    private void unknownAheadOfFull() {
        for (Scene scene : List.of(Scene.FULL, Scene.LARGEST)) {
            for (int ray : new int[] {-1, scene.rays, LOW, HIGH}) refused("trip, full", scene, UNKNOWN, x -> x.trip(ray, 1));
            for (int s : new int[] {0, scene.reach + 1, LOW, HIGH}) refused("trip, full", scene, UNKNOWN, x -> x.trip(0, s));
        }
    }

    private void outsideAheadOfState() {
        for (Scene scene : List.of(Scene.NEW, Scene.HALF, Scene.ASKED, Scene.LARGEST, Scene.LEAST)) {
            for (int w : new int[] {-1, 4, LOW, HIGH}) refused("worst(" + w + ")", scene, OUTSIDE, x -> x.worst(w));
        }
    }

    /** A wrong number is refused even where the answer to a right one is NONE. */
    private void outsideThoughThereIsNone() {
        for (Scene scene : List.of(Scene.NEW, Scene.HALF, Scene.ASKED, Scene.LARGEST, Scene.LEAST)) {
            int ray = scene.rays - 1;
            int s = scene.reach;
            is(scene.name + ": late, none", scene.lay().late(ray, s, 0), NONE);
            is(scene.name + ": both, none", scene.lay().both(ray, s, 0), NONE);
            for (int w : new int[] {-1, 2, LOW, HIGH}) refused("late, none", scene, OUTSIDE, x -> x.late(ray, s, w));
            for (int w : new int[] {-1, 5, LOW, HIGH}) refused("both, none", scene, OUTSIDE, x -> x.both(ray, s, w));
        }
    }
}
