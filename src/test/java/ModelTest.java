import java.util.ArrayList;
import java.util.Comparator;
import java.util.List;
import java.util.TreeMap;

/**
 * Long runs of mixed calls, the answers compared with a model that is written another way:
 * a sorted map of points, and sorted lists where the class counts.
 */
public final class ModelTest {
    private static final int RUNS = 400;
    private static final int CALLS = 512;
    private static final int[] ODD = {-1, 4096, 0, 4095, 63, 64, 39, 40, Integer.MIN_VALUE, Integer.MAX_VALUE};

    private record Point(int x, int y, int label) {
        int place() {
            return x + 64 * y;
        }

        int distance(int place) {
            int dx = x - (place & 63);
            int dy = y - (place >> 6);
            return dx * dx + dy * dy;
        }
    }

    private final CellIndex index = new CellIndex();
    private final TreeMap<Integer, Point> points = new TreeMap<>();
    private final int run;
    private long seed;

    private ModelTest(int run) {
        this.run = run;
        this.seed = run;
    }

    public static void main(String[] args) {
        for (int run = 0; run < RUNS; run++) {
            ModelTest test = new ModelTest(run);
            for (int call = 0; call < CALLS; call++) {
                test.call();
            }
        }
        Due.end();
    }

    /** A sequence fixed by its seed, so that each run is the same every time. */
    private int below(int bound) {
        seed = seed * 6364136223846793005L + 1442695040888963407L;
        return (int) ((seed >>> 33) % bound);
    }

    private int odd() {
        return ODD[below(ODD.length)];
    }

    /** Some runs keep to a small corner, so that places and distances are often equal. */
    private int somePlace() {
        if (below(25) == 0) {
            return odd();
        }
        int side = run % 3 == 0 ? 64 : run % 3 == 1 ? 8 : 3;
        return 64 - side + below(side) + 64 * below(side);
    }

    private int somePoint() {
        return below(25) == 0 ? odd() : below(42);
    }

    private int someLabel() {
        return below(3) == 0 ? odd() : below(Integer.MAX_VALUE) - below(Integer.MAX_VALUE);
    }

    private int someDistance() {
        if (below(10) == 0) {
            return odd();
        }
        return below(2) == 0 ? below(8000) : below(20) - 1;
    }

    private int someRank() {
        return below(20) == 0 ? odd() : below(points.size() + 2) - (below(20) == 0 ? 1 : 0);
    }

    private void call() {
        // Every other run adds so often that it grows to forty points and stays near them.
        int kinds = run % 2 == 0 ? 16 : 19;
        switch (below(kinds)) {
            case 0, 16, 17, 18 -> add(somePlace(), someLabel());
            case 1 -> remove(somePoint());
            case 2 -> move(somePoint(), somePlace());
            case 3 -> clearBoxRarely(somePlace(), somePlace());
            case 4 -> countBox(somePlace(), somePlace());
            case 5 -> sumBox(somePlace(), somePlace());
            case 6, 7 -> countNear(somePlace(), someDistance());
            case 8, 9 -> nearest(somePlace(), someRank());
            case 10 -> firstIn(somePlace(), somePlace());
            case 11 -> placeOf(somePoint());
            case 12 -> labelOf(somePoint());
            case 13 -> closest();
            case 14 -> is("count()", index.count(), points.size());
            default -> add(somePlace(), someLabel());
        }
    }

    private void is(String call, int got, int want) {
        Due.is("run " + run + ": " + call, got, want);
    }

    private static boolean bad(int place) {
        return (place & ~4095) != 0;
    }

    private List<Integer> inBox(int a, int b) {
        int left = Math.min(a % 64, b % 64);
        int right = Math.max(a % 64, b % 64);
        int low = Math.min(a / 64, b / 64);
        int high = Math.max(a / 64, b / 64);
        List<Integer> found = new ArrayList<>();
        points.forEach((number, point) -> {
            if (point.x >= left && point.x <= right && point.y >= low && point.y <= high) {
                found.add(number);
            }
        });
        return found;
    }

    private void add(int place, int label) {
        int want;
        if (bad(place)) {
            want = -1;
        } else if (points.size() == 40) {
            want = -2;
        } else {
            want = 0;
            while (points.containsKey(want)) {
                want++;
            }
            points.put(want, new Point(place % 64, place / 64, label));
        }
        is("add(" + place + ", " + label + ")", index.add(place, label), want);
    }

    private void remove(int number) {
        int want = points.remove(number) == null ? -3 : points.size();
        is("remove(" + number + ")", index.remove(number), want);
    }

    private void move(int number, int place) {
        Point old = points.get(number);
        int want;
        if (old == null) {
            want = -3;
        } else if (bad(place)) {
            want = -1;
        } else {
            want = old.place();
            points.put(number, new Point(place % 64, place / 64, old.label));
        }
        is("move(" + number + ", " + place + ")", index.move(number, place), want);
    }

    /** A large box empties the object, and an empty one tells little. */
    private void clearBoxRarely(int a, int b) {
        boolean bad = bad(a) || bad(b);
        if (!bad && inBox(a, b).size() > 3 && below(6) != 0) {
            countBox(a, b);
            return;
        }
        int want = -1;
        if (!bad) {
            List<Integer> cleared = inBox(a, b);
            want = cleared.size();
            points.keySet().removeAll(cleared);
        }
        is("clearBox(" + a + ", " + b + ")", index.clearBox(a, b), want);
    }

    private void countBox(int a, int b) {
        int want = bad(a) || bad(b) ? -1 : inBox(a, b).size();
        is("countBox(" + a + ", " + b + ")", index.countBox(a, b), want);
    }

    private void sumBox(int a, int b) {
        long sum = -1;
        if (!bad(a) && !bad(b)) {
            sum = inBox(a, b).stream().mapToLong(number -> points.get(number).label).sum();
        }
        is("sumBox(" + a + ", " + b + ")", index.sumBox(a, b), (int) sum);
    }

    private void countNear(int place, int distance) {
        long want = -1;
        if (!bad(place)) {
            want = points.values().stream().filter(point -> point.distance(place) <= distance).count();
        }
        is("countNear(" + place + ", " + distance + ")", index.countNear(place, distance), (int) want);
    }

    private void nearest(int place, int rank) {
        int want;
        if (bad(place)) {
            want = -1;
        } else if (rank < 0) {
            want = -4;
        } else {
            // The sort is stable and the keys come in order, so equal distances stay in order.
            List<Integer> order = new ArrayList<>(points.keySet());
            order.sort(Comparator.comparingInt(number -> points.get(number).distance(place)));
            want = rank < order.size() ? order.get(rank) : -3;
        }
        is("nearest(" + place + ", " + rank + ")", index.nearest(place, rank), want);
    }

    private void firstIn(int a, int b) {
        int want = -1;
        if (!bad(a) && !bad(b)) {
            want = inBox(a, b).stream().findFirst().orElse(-3);
        }
        is("firstIn(" + a + ", " + b + ")", index.firstIn(a, b), want);
    }

    private void placeOf(int number) {
        Point point = points.get(number);
        is("placeOf(" + number + ")", index.placeOf(number), point == null ? -3 : point.place());
    }

    private void labelOf(int number) {
        Point point = points.get(number);
        is("labelOf(" + number + ")", index.labelOf(number), point == null ? 0 : point.label);
    }

    private void closest() {
        int want = points.entrySet().stream()
            .flatMap(one -> points.tailMap(one.getKey(), false).values().stream()
                .map(other -> other.distance(one.getValue().place())))
            .min(Comparator.naturalOrder())
            .orElse(-3);
        is("closest()", index.closest(), want);
    }
}
