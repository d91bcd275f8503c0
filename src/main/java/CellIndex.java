/** Points on a square, asked for by boxes and by distance. */
public final class CellIndex {
    public static final int BAD_PLACE = -1;
    public static final int FULL = -2;
    public static final int NO_POINT = -3;
    public static final int BAD_RANK = -4;

    private static final int CAPACITY = 40;
    private static final int SIDE = 64;
    private static final int LAST_PLACE = SIDE * SIDE - 1;

    private final boolean[] taken = new boolean[CAPACITY];
    private final int[] places = new int[CAPACITY];
    private final int[] labels = new int[CAPACITY];

    private int size;

    public CellIndex() {
        size = 0;
    }

    public int add(int place, int label) {
        if (!isPlace(place)) {
            return BAD_PLACE;
        }
        for (int point = 0; point < CAPACITY; point++) {
            if (!taken[point]) {
                taken[point] = true;
                places[point] = place;
                labels[point] = label;
                size++;
                return point;
            }
        }
        return FULL;
    }

    public int remove(int point) {
        if (!isPoint(point)) {
            return NO_POINT;
        }
        takeAway(point);
        return size;
    }

    public int move(int point, int place) {
        if (!isPoint(point)) {
            return NO_POINT;
        }
        if (!isPlace(place)) {
            return BAD_PLACE;
        }
        int oldPlace = places[point];
        places[point] = place;
        return oldPlace;
    }

    public int clearBox(int a, int b) {
        if (!isBox(a, b)) {
            return BAD_PLACE;
        }
        int cleared = 0;
        for (int point = 0; point < CAPACITY; point++) {
            if (isPointInBox(point, a, b)) {
                takeAway(point);
                cleared++;
            }
        }
        return cleared;
    }

    public int countBox(int a, int b) {
        if (!isBox(a, b)) {
            return BAD_PLACE;
        }
        int found = 0;
        for (int point = 0; point < CAPACITY; point++) {
            if (isPointInBox(point, a, b)) {
                found++;
            }
        }
        return found;
    }

    public int sumBox(int a, int b) {
        if (!isBox(a, b)) {
            return BAD_PLACE;
        }
        int sum = 0;
        for (int point = 0; point < CAPACITY; point++) {
            if (isPointInBox(point, a, b)) {
                sum += labels[point];
            }
        }
        return sum;
    }

    public int countNear(int place, int distance) {
        if (!isPlace(place)) {
            return BAD_PLACE;
        }
        // No distance is below 0, so a limit below 0 counts none without a test of its own.
        int found = 0;
        for (int point = 0; point < CAPACITY; point++) {
            if (taken[point] && distanceOf(places[point], place) <= distance) {
                found++;
            }
        }
        return found;
    }

    public int nearest(int place, int rank) {
        if (!isPlace(place)) {
            return BAD_PLACE;
        }
        if (rank < 0) {
            return BAD_RANK;
        }
        // The order is total, so the rank-th point is the one that has exactly rank points ahead of it.
        for (int point = 0; point < CAPACITY; point++) {
            if (taken[point] && countAhead(point, place) == rank) {
                return point;
            }
        }
        return NO_POINT;
    }

    public int firstIn(int a, int b) {
        if (!isBox(a, b)) {
            return BAD_PLACE;
        }
        for (int point = 0; point < CAPACITY; point++) {
            if (isPointInBox(point, a, b)) {
                return point;
            }
        }
        return NO_POINT;
    }

    public int placeOf(int point) {
        return isPoint(point) ? places[point] : NO_POINT;
    }

    public int labelOf(int point) {
        return isPoint(point) ? labels[point] : 0;
    }

    public int closest() {
        int least = NO_POINT;
        for (int first = 0; first < CAPACITY; first++) {
            for (int second = first + 1; second < CAPACITY; second++) {
                if (taken[first] && taken[second]) {
                    int distance = distanceOf(places[first], places[second]);
                    if (least == NO_POINT || distance < least) {
                        least = distance;
                    }
                }
            }
        }
        return least;
    }

    public int count() {
        return size;
    }

    private static boolean isPlace(int place) {
        return place >= 0 && place <= LAST_PLACE;
    }

    private static boolean isBox(int a, int b) {
        return isPlace(a) && isPlace(b);
    }

    private boolean isPoint(int point) {
        return point >= 0 && point < CAPACITY && taken[point];
    }

    private void takeAway(int point) {
        taken[point] = false;
        size--;
    }

    private boolean isPointInBox(int point, int a, int b) {
        if (!taken[point]) {
            return false;
        }
        int place = places[point];
        return isBetween(place % SIDE, a % SIDE, b % SIDE)
            && isBetween(place / SIDE, a / SIDE, b / SIDE);
    }

    // The corners of a box come in either order, on each axis by itself.
    private static boolean isBetween(int value, int end, int otherEnd) {
        return end <= otherEnd
            ? end <= value && value <= otherEnd
            : otherEnd <= value && value <= end;
    }

    private static int distanceOf(int place, int otherPlace) {
        int dx = place % SIDE - otherPlace % SIDE;
        int dy = place / SIDE - otherPlace / SIDE;
        return dx * dx + dy * dy;
    }

    private int countAhead(int point, int place) {
        int distance = distanceOf(places[point], place);
        int ahead = 0;
        for (int other = 0; other < CAPACITY; other++) {
            if (taken[other]) {
                int otherDistance = distanceOf(places[other], place);
                if (otherDistance < distance || (otherDistance == distance && other < point)) {
                    ahead++;
                }
            }
        }
        return ahead;
    }
}
