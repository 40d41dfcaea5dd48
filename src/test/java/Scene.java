import java.util.ArrayList;
import java.util.List;
import java.util.function.Consumer;

/**
 * A way to bring a new object into a state, told by name and with its bounds; and the picture of an object:
 * all that reading calls answer. A refused call is made on one object and left out on its twin; the two have
 * to give the same picture. Scene, refused call and picture stay within the 512 calls of one object.
 */
final class Scene {
    interface Call {
        int on(LineSearch x);
    }

    final String name;
    final int rays;
    final int reach;
    final int trips;
    private final Consumer<LineSearch> calls;
    private String picture;

    private Scene(String name, int rays, int reach, int trips, Consumer<LineSearch> calls) {
        this.name = name;
        this.rays = rays;
        this.reach = reach;
        this.trips = trips;
        this.calls = calls;
    }

    /** A new object: 2 rays of 5 steps, no trips. */
    static final Scene NEW = new Scene("new", 2, 5, 0, x -> { });

    /** 3 rays of 4 steps, 5 trips that leave out 0/4, 1/3, 1/4, 2/2, 2/3, 2/4. */
    static final Scene HALF = new Scene("half", 3, 4, 5, Scene::layHalf);

    /** The same, with both bests asked for already. */
    static final Scene ASKED = new Scene("asked", 3, 4, 5, x -> {
        layHalf(x);
        x.leastMean();
        x.leastWorst(0);
    });

    /** 2 rays of 5 steps, 30 trips that come to all places. */
    static final Scene FULL = new Scene("full", 2, 5, 30, x -> {
        for (int i = 0; i < 30; i++) x.trip(i % 2, 1 + i % 5);
    });

    /** 3 rays of 8 steps, the dearest costs, the greatest shares, 30 trips that leave out ray 2. */
    static final Scene LARGEST = new Scene("largest", 3, 8, 30, x -> {
        x.rays(3, 8);
        x.costs(9, 9);
        for (int p = 0; p < 24; p++) x.share(p / 8, 1 + p % 8, 100);
        for (int i = 0; i < 30; i++) x.trip(i % 2, 8);
    });

    /** 2 rays of 1 step, no trips. */
    static final Scene LEAST = new Scene("least", 2, 1, 0, x -> x.rays(2, 1));

    static final List<Scene> ALL = List.of(NEW, HALF, ASKED, FULL, LARGEST, LEAST);

    private static void layHalf(LineSearch x) {
        x.rays(3, 4);
        x.costs(2, 3);
        x.share(0, 1, 0);
        x.share(2, 4, 100);
        x.share(1, 2, 7);
        x.trip(1, 2);
        x.trip(0, 3);
        x.trip(1, 1);
        x.trip(2, 1);
        x.trip(0, 3);
    }

    LineSearch lay() {
        LineSearch x = new LineSearch();
        calls.accept(x);
        return x;
    }

    String picture() {
        if (picture == null) picture = pictureOf(lay());
        return picture;
    }

    /** Some 430 calls. */
    static String pictureOf(LineSearch x) {
        List<Integer> all = new ArrayList<>();
        for (int w = 0; w < 7; w++) all.add(x.told(w));
        for (int ray = 0; ray < 3; ray++) {
            for (int s = 1; s <= 8; s++) {
                all.add(x.shareOf(ray, s));
                all.add(x.way(ray, s));
                for (int w = 0; w < 2; w++) all.add(x.late(ray, s, w));
                for (int w = 0; w < 5; w++) all.add(x.both(ray, s, w));
            }
        }
        for (int i = 0; i < 30; i++) {
            for (int w = 0; w < 3; w++) all.add(x.tripOf(i, w));
            all.add(x.finds(i));
        }
        for (int i = -1; i < 24; i++) all.add(x.missed(i));
        for (int w = 0; w < 4; w++) all.add(x.worst(w));
        all.add(x.mean());
        all.add(x.end());
        all.add(x.leastMean());
        for (int w = 0; w < 2; w++) all.add(x.leastWorst(w));
        for (int i = 0; i < 25; i++) {
            all.add(x.meanTrip(i));
            all.add(x.worstTrip(i));
        }
        return all.toString();
    }
}
