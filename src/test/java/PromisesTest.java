import java.util.Arrays;

/** Each promise by itself: ordinary inputs, the edges that the document names, wrong inputs. */
public final class PromisesTest {
    private static final int MIN = Integer.MIN_VALUE;
    private static final int MAX = Integer.MAX_VALUE;
    private static final int BAD_PLACE = -1;
    private static final int FULL = -2;
    private static final int NO_POINT = -3;
    private static final int BAD_RANK = -4;
    private static final int[] NOT_PLACES = {-1, 4096, -64, 4097, 8191, 65536, MIN, MAX};
    private static final int[] NOT_POINTS = {-1, 40, 41, -40, 64, 256, MIN, MAX};

    public static void main(String[] args) {
        newObject();
        addNumbers();
        addRefuses();
        removeTakesAway();
        removeRefuses();
        moveMoves();
        moveRefuses();
        clearBoxTakesAway();
        clearBoxRefuses();
        boxEdges();
        boxOfAnyCorners();
        sumBoxSums();
        countNearCounts();
        nearestOrders();
        nearestRefuses();
        firstInFinds();
        placeOfAndLabelOf();
        closestFinds();
        countCounts();
        queriesRefuseBadPlaces();
        queriesChangeNothing();
        objectsStandApart();
        Due.end();
    }

    private static int at(int x, int y) {
        return x + 64 * y;
    }

    private static CellIndex withPoints(int... places) {
        CellIndex index = new CellIndex();
        for (int i = 0; i < places.length; i++) {
            Due.is("add(" + places[i] + ", " + (100 + i) + ")", index.add(places[i], 100 + i), i);
        }
        return index;
    }

    private static CellIndex withForty() {
        CellIndex index = new CellIndex();
        for (int i = 0; i < 40; i++) {
            Due.is("add number " + i, index.add(i * 100, i), i);
        }
        return index;
    }

    /** 81 calls, of the 512 that an object has. */
    private static String state(CellIndex index) {
        int[] seen = new int[81];
        for (int point = 0; point < 40; point++) {
            seen[point] = index.placeOf(point);
            seen[40 + point] = index.labelOf(point);
        }
        seen[80] = index.count();
        return Arrays.toString(seen);
    }

    private static void newObject() {
        CellIndex index = new CellIndex();
        Due.is("1: count()", index.count(), 0);
        Due.is("1: countBox of all", index.countBox(0, 4095), 0);
        Due.is("1: sumBox of all", index.sumBox(0, 4095), 0);
        Due.is("1: countNear of all", index.countNear(0, MAX), 0);
        Due.is("1: nearest(0, 0)", index.nearest(0, 0), NO_POINT);
        Due.is("1: firstIn of all", index.firstIn(0, 4095), NO_POINT);
        Due.is("1: closest()", index.closest(), NO_POINT);
        for (int point = 0; point < 40; point++) {
            Due.is("1: placeOf(" + point + ")", index.placeOf(point), NO_POINT);
            Due.is("1: labelOf(" + point + ")", index.labelOf(point), 0);
            Due.is("1: remove(" + point + ")", index.remove(point), NO_POINT);
            Due.is("1: move(" + point + ", 0)", index.move(point, 0), NO_POINT);
        }
        Due.is("1: clearBox of all", index.clearBox(0, 4095), 0);
        Due.is("1: count() still", index.count(), 0);
    }

    private static void addNumbers() {
        CellIndex index = withForty();
        Due.is("2: remove(39)", index.remove(39), 39);
        Due.is("2: remove(7)", index.remove(7), 38);
        Due.is("2: remove(21)", index.remove(21), 37);
        Due.is("2: add takes 7", index.add(4095, MIN), 7);
        Due.is("2: add takes 21", index.add(0, MAX), 21);
        Due.is("2: add takes 39", index.add(4095, -1), 39);
        Due.is("2: placeOf(7)", index.placeOf(7), 4095);
        Due.is("2: labelOf(7)", index.labelOf(7), MIN);
        Due.is("2: placeOf(21)", index.placeOf(21), 0);
        Due.is("2: labelOf(21)", index.labelOf(21), MAX);
        Due.is("2: labelOf(39)", index.labelOf(39), -1);
        Due.is("2: count()", index.count(), 40);
        Due.is("2: clearBox of the last place", index.clearBox(4095, 4095), 2);
        Due.is("2: add takes 7 again", index.add(5, 0), 7);
        Due.is("2: labelOf(7) is new", index.labelOf(7), 0);
    }

    private static void addRefuses() {
        CellIndex index = withPoints(3, 3);
        String before = state(index);
        for (int place : NOT_PLACES) {
            Due.is("2: add(" + place + ", 1)", index.add(place, 1), BAD_PLACE);
        }
        Due.same("2: the state after a bad place", state(index), before);

        CellIndex full = withForty();
        before = state(full);
        Due.is("2: add to forty", full.add(0, 1), FULL);
        Due.is("2: add to forty, last place", full.add(4095, 1), FULL);
        for (int place : NOT_PLACES) {
            Due.is("2: add(" + place + ", 1) to forty", full.add(place, 1), BAD_PLACE);
        }
        Due.same("2: the state after FULL", state(full), before);
        Due.is("2: remove(0)", full.remove(0), 39);
        Due.is("2: add when there is room again", full.add(9, 9), 0);
    }

    private static void removeTakesAway() {
        CellIndex index = withPoints(10, 20, 10, 30);
        Due.is("3: remove(2)", index.remove(2), 3);
        Due.is("3: placeOf(2)", index.placeOf(2), NO_POINT);
        Due.is("3: labelOf(2)", index.labelOf(2), 0);
        Due.is("3: placeOf(0) stays", index.placeOf(0), 10);
        Due.is("3: labelOf(3) stays", index.labelOf(3), 103);
        Due.is("3: remove(2) again", index.remove(2), NO_POINT);
        Due.is("3: count()", index.count(), 3);
        Due.is("3: countBox", index.countBox(10, 10), 1);
        Due.is("3: remove(0)", index.remove(0), 2);
        Due.is("3: remove(3)", index.remove(3), 1);
        Due.is("3: remove(1)", index.remove(1), 0);
        Due.is("3: remove(1) again", index.remove(1), NO_POINT);

        CellIndex full = withForty();
        for (int point = 39; point >= 0; point--) {
            Due.is("3: remove(" + point + ") of forty", full.remove(point), point);
        }
    }

    private static void removeRefuses() {
        CellIndex index = withForty();
        String before = state(index);
        for (int point : NOT_POINTS) {
            Due.is("3: remove(" + point + ")", index.remove(point), NO_POINT);
        }
        Due.same("3: the state after NO_POINT", state(index), before);
    }

    private static void moveMoves() {
        CellIndex index = withPoints(100, 200, 100);
        Due.is("4: move(0, 4095)", index.move(0, 4095), 100);
        Due.is("4: placeOf(0)", index.placeOf(0), 4095);
        Due.is("4: labelOf(0) stays", index.labelOf(0), 100);
        Due.is("4: placeOf(2) stays", index.placeOf(2), 100);
        Due.is("4: move(0, 0)", index.move(0, 0), 4095);
        Due.is("4: move(0, 0) to its own place", index.move(0, 0), 0);
        Due.is("4: move(1, 0) to a place that is taken", index.move(1, 0), 200);
        Due.is("4: countBox", index.countBox(0, 0), 2);
        Due.is("4: count()", index.count(), 3);

        CellIndex full = withForty();
        Due.is("4: move(39, 1) of forty", full.move(39, 1), 3900);
        Due.is("4: placeOf(39)", full.placeOf(39), 1);
    }

    private static void moveRefuses() {
        CellIndex index = withPoints(100, 200, 300);
        Due.is("4: remove(1)", index.remove(1), 2);
        String before = state(index);
        for (int place : NOT_PLACES) {
            Due.is("4: move(0, " + place + ")", index.move(0, place), BAD_PLACE);
            Due.is("4: move(1, " + place + ")", index.move(1, place), NO_POINT);
            Due.is("4: move(-1, " + place + ")", index.move(-1, place), NO_POINT);
        }
        for (int point : NOT_POINTS) {
            Due.is("4: move(" + point + ", 5)", index.move(point, 5), NO_POINT);
        }
        Due.is("4: move(1, 5) of a point that is gone", index.move(1, 5), NO_POINT);
        Due.same("4: the state after a refusal", state(index), before);
    }

    private static void clearBoxTakesAway() {
        CellIndex index = withPoints(at(5, 5), at(10, 10), at(7, 20), at(7, 7), at(5, 5), at(20, 7));
        Due.is("5: clearBox of an empty box", index.clearBox(at(0, 0), at(4, 63)), 0);
        Due.is("5: clearBox", index.clearBox(at(10, 5), at(5, 10)), 4);
        Due.is("5: count()", index.count(), 2);
        Due.is("5: placeOf(0)", index.placeOf(0), NO_POINT);
        Due.is("5: placeOf(1)", index.placeOf(1), NO_POINT);
        Due.is("5: placeOf(2) stays", index.placeOf(2), at(7, 20));
        Due.is("5: placeOf(3)", index.placeOf(3), NO_POINT);
        Due.is("5: placeOf(4)", index.placeOf(4), NO_POINT);
        Due.is("5: labelOf(5) stays", index.labelOf(5), 105);
        Due.is("5: clearBox again", index.clearBox(at(5, 5), at(10, 10)), 0);
        Due.is("5: add takes 0", index.add(1, 1), 0);

        CellIndex full = withForty();
        Due.is("5: clearBox of forty", full.clearBox(4095, 0), 40);
        Due.is("5: count() after it", full.count(), 0);
        Due.is("5: add after it", full.add(0, 0), 0);
    }

    private static void clearBoxRefuses() {
        CellIndex index = withForty();
        String before = state(index);
        for (int place : NOT_PLACES) {
            Due.is("5: clearBox(" + place + ", 0)", index.clearBox(place, 0), BAD_PLACE);
            Due.is("5: clearBox(0, " + place + ")", index.clearBox(0, place), BAD_PLACE);
            Due.is("5: clearBox(4095, " + place + ")", index.clearBox(4095, place), BAD_PLACE);
            Due.is("5: clearBox twice " + place, index.clearBox(place, place), BAD_PLACE);
        }
        Due.same("5: the state after BAD_PLACE", state(index), before);
    }

    /** One point just on each side of each edge of the box, and in all four corners. */
    private static void boxEdges() {
        for (int x = 9; x <= 16; x++) {
            for (int y = 19; y <= 31; y++) {
                boolean in = x >= 10 && x <= 15 && y >= 20 && y <= 30;
                boxHolds(at(x, y), at(10, 20), at(15, 30), in);
                boxHolds(at(x, y), at(15, 20), at(10, 30), in);
                boxHolds(at(x, y), at(10, 30), at(15, 20), in);
                boxHolds(at(x, y), at(15, 30), at(10, 20), in);
            }
        }
    }

    private static void boxHolds(int place, int a, int b, boolean in) {
        String box = "(" + a + ", " + b + ") with a point at " + place;
        CellIndex index = withPoints(place);
        Due.is("6: countBox" + box, index.countBox(a, b), in ? 1 : 0);
        Due.is("7: sumBox" + box, index.sumBox(a, b), in ? 100 : 0);
        Due.is("10: firstIn" + box, index.firstIn(a, b), in ? 0 : NO_POINT);
        Due.is("5: clearBox" + box, index.clearBox(a, b), in ? 1 : 0);
        Due.is("5: count after clearBox" + box, index.count(), in ? 0 : 1);
    }

    private static void boxOfAnyCorners() {
        int[] corners = {at(0, 0), at(63, 0), at(0, 63), at(63, 63)};
        CellIndex index = withPoints(at(0, 0), at(63, 0), at(0, 63), at(63, 63), at(31, 32), at(63, 63));
        Due.is("6: all, corners upward", index.countBox(at(0, 0), at(63, 63)), 6);
        Due.is("6: all, corners downward", index.countBox(at(63, 63), at(0, 0)), 6);
        Due.is("6: all, the other corners", index.countBox(at(63, 0), at(0, 63)), 6);
        Due.is("6: all, the other corners turned", index.countBox(at(0, 63), at(63, 0)), 6);
        Due.is("6: the row y = 0", index.countBox(at(0, 0), at(63, 0)), 2);
        Due.is("6: the column x = 63", index.countBox(at(63, 63), at(63, 0)), 3);
        Due.is("6: a box of one place", index.countBox(at(63, 63), at(63, 63)), 2);
        Due.is("6: a box of one empty place", index.countBox(at(30, 30), at(30, 30)), 0);
        // 63 and 64 follow each other as places, yet they span the whole width of two rows.
        Due.is("6: countBox(63, 64)", index.countBox(63, 64), 2);
        for (int corner : corners) {
            Due.is("6: from " + corner + " to the middle", index.countBox(corner, at(31, 32)),
                corner == at(63, 63) ? 3 : 2);
        }
    }

    private static void sumBoxSums() {
        CellIndex index = new CellIndex();
        Due.is("7: add", index.add(at(1, 1), MAX), 0);
        Due.is("7: add", index.add(at(2, 2), 1), 1);
        Due.is("7: add", index.add(at(3, 3), -7), 2);
        Due.is("7: add", index.add(at(4, 4), 6), 3);
        Due.is("7: add", index.add(at(5, 5), MIN), 4);
        Due.is("7: the sum wraps", index.sumBox(at(1, 1), at(2, 2)), MIN);
        Due.is("7: the sum wraps back", index.sumBox(at(1, 1), at(3, 3)), MAX - 6);
        Due.is("7: the sum of all", index.sumBox(0, 4095), -1);
        Due.is("7: a sum that equals BAD_PLACE", index.sumBox(at(4, 3), at(3, 4)), -1);
        Due.is("7: a sum of none", index.sumBox(at(6, 6), at(63, 63)), 0);
        Due.is("7: remove(4)", index.remove(4), 4);
        Due.is("7: a point that is gone is left out", index.sumBox(at(4, 4), at(5, 5)), 6);
        Due.is("7: move(3, 0)", index.move(3, 0), at(4, 4));
        Due.is("7: a point that has moved is left out", index.sumBox(at(4, 4), at(5, 5)), 0);
        Due.is("7: a point that has moved is taken in", index.sumBox(0, 0), 6);
    }

    private static void countNearCounts() {
        CellIndex index = withPoints(at(10, 10), at(13, 14), at(10, 11), at(63, 63), at(10, 10), at(0, 0));
        int place = at(10, 10);
        Due.is("8: distance 0", index.countNear(place, 0), 2);
        Due.is("8: distance 1", index.countNear(place, 1), 3);
        Due.is("8: distance 24", index.countNear(place, 24), 3);
        Due.is("8: distance 25, counted in", index.countNear(place, 25), 4);
        Due.is("8: distance 199", index.countNear(place, 199), 4);
        Due.is("8: distance 200", index.countNear(place, 200), 5);
        Due.is("8: distance 5617", index.countNear(place, 5617), 5);
        Due.is("8: distance 5618", index.countNear(place, 5618), 6);
        Due.is("8: the greatest distance less 1", index.countNear(at(63, 63), 7937), 5);
        Due.is("8: the greatest distance", index.countNear(at(63, 63), 7938), 6);
        Due.is("8: distance MAX", index.countNear(place, MAX), 6);
        Due.is("8: distance -1", index.countNear(place, -1), 0);
        Due.is("8: distance -25", index.countNear(place, -25), 0);
        Due.is("8: distance MIN", index.countNear(place, MIN), 0);
        Due.is("8: bad place ahead of a distance below 0", index.countNear(-1, -1), BAD_PLACE);
        Due.is("8: bad place ahead of a distance below 0", index.countNear(4096, MIN), BAD_PLACE);
        Due.is("8: remove(0)", index.remove(0), 5);
        Due.is("8: a point that is gone is left out", index.countNear(place, 0), 1);
    }

    private static void nearestOrders() {
        CellIndex index = withPoints(at(20, 25), at(20, 20), at(23, 24), at(15, 20), at(20, 20),
            at(20, 21), at(63, 63), at(16, 17));
        int[] order = {1, 4, 5, 0, 2, 3, 7, 6};
        for (int rank = 0; rank < order.length; rank++) {
            Due.is("9: nearest to (20, 20), rank " + rank, index.nearest(at(20, 20), rank), order[rank]);
        }
        Due.is("9: rank 8 of eight", index.nearest(at(20, 20), 8), NO_POINT);
        Due.is("9: from the far corner", index.nearest(at(63, 63), 0), 6);
        Due.is("9: last from the far corner", index.nearest(at(63, 63), 7), 7);
        Due.is("9: remove(4)", index.remove(4), 7);
        Due.is("9: a point that is gone is left out", index.nearest(at(20, 20), 1), 5);
        Due.is("9: rank 7 of seven", index.nearest(at(20, 20), 7), NO_POINT);
        Due.is("9: move(6, (20, 20))", index.move(6, at(20, 20)), at(63, 63));
        Due.is("9: equal distances by number", index.nearest(at(20, 20), 1), 6);

        CellIndex full = new CellIndex();
        for (int i = 0; i < 40; i++) {
            Due.is("9: add", full.add(77, 0), i);
        }
        for (int rank = 0; rank < 40; rank++) {
            Due.is("9: forty at one place, rank " + rank, full.nearest(4000, rank), rank);
        }
        Due.is("9: forty at one place, rank 40", full.nearest(4000, 40), NO_POINT);
    }

    private static void nearestRefuses() {
        CellIndex index = withPoints(5, 6);
        CellIndex none = new CellIndex();
        for (int place : NOT_PLACES) {
            Due.is("15: bad place, good rank", index.nearest(place, 0), BAD_PLACE);
            Due.is("15: bad place ahead of bad rank", index.nearest(place, -1), BAD_PLACE);
            Due.is("15: bad place ahead of no point", index.nearest(place, 2), BAD_PLACE);
            Due.is("15: bad place ahead of all, no points", none.nearest(place, MIN), BAD_PLACE);
        }
        Due.is("9: rank -1", index.nearest(5, -1), BAD_RANK);
        Due.is("9: rank MIN", index.nearest(5, MIN), BAD_RANK);
        Due.is("15: bad rank ahead of no point", none.nearest(5, -1), BAD_RANK);
        Due.is("15: bad rank ahead of no point", none.nearest(5, MIN), BAD_RANK);
        Due.is("9: rank 2 of two", index.nearest(5, 2), NO_POINT);
        Due.is("9: rank 39 of two", index.nearest(5, 39), NO_POINT);
        Due.is("9: rank 40 of two", index.nearest(5, 40), NO_POINT);
        Due.is("9: rank MAX", index.nearest(5, MAX), NO_POINT);
        Due.is("9: rank 0 of none", none.nearest(5, 0), NO_POINT);
    }

    private static void firstInFinds() {
        CellIndex index = withPoints(at(40, 40), at(9, 9), at(8, 8), at(9, 9));
        Due.is("10: the smallest number", index.firstIn(at(8, 8), at(9, 9)), 1);
        Due.is("10: of all", index.firstIn(4095, 0), 0);
        Due.is("10: of one place", index.firstIn(at(8, 8), at(8, 8)), 2);
        Due.is("10: of none", index.firstIn(at(50, 50), at(60, 60)), NO_POINT);
        Due.is("10: remove(1)", index.remove(1), 3);
        Due.is("10: a point that is gone is left out", index.firstIn(at(9, 9), at(9, 9)), 3);
        Due.is("10: the smallest of the rest", index.firstIn(at(9, 8), at(8, 9)), 2);

        CellIndex full = withForty();
        Due.is("10: the last number", full.firstIn(3900, 3900), 39);
    }

    private static void placeOfAndLabelOf() {
        CellIndex index = withForty();
        for (int point = 0; point < 40; point++) {
            Due.is("11: placeOf(" + point + ")", index.placeOf(point), point * 100);
            Due.is("12: labelOf(" + point + ")", index.labelOf(point), point);
        }
        for (int point : NOT_POINTS) {
            Due.is("11: placeOf(" + point + ")", index.placeOf(point), NO_POINT);
            Due.is("12: labelOf(" + point + ")", index.labelOf(point), 0);
        }
        Due.is("11: remove(39)", index.remove(39), 39);
        Due.is("11: placeOf(39) when gone", index.placeOf(39), NO_POINT);
        Due.is("12: labelOf(39) when gone", index.labelOf(39), 0);
        Due.is("12: add", index.add(4095, NO_POINT), 39);
        Due.is("12: a label that equals NO_POINT", index.labelOf(39), NO_POINT);
    }

    private static void closestFinds() {
        CellIndex index = withPoints(at(0, 0));
        Due.is("13: one point", index.closest(), NO_POINT);
        Due.is("13: add", index.add(at(63, 63), 0), 1);
        Due.is("13: the greatest distance", index.closest(), 7938);
        Due.is("13: add", index.add(at(60, 59), 0), 2);
        Due.is("13: the last two", index.closest(), 25);
        Due.is("13: add", index.add(at(0, 2), 0), 3);
        Due.is("13: the first and the last", index.closest(), 4);
        Due.is("13: remove(0)", index.remove(0), 3);
        Due.is("13: a point that is gone is left out", index.closest(), 25);
        Due.is("13: move(3, (63, 63))", index.move(3, at(63, 63)), at(0, 2));
        Due.is("13: two at one place", index.closest(), 0);
        Due.is("13: clearBox", index.clearBox(at(63, 63), at(63, 63)), 2);
        Due.is("13: one left", index.closest(), NO_POINT);
        Due.is("13: remove(2)", index.remove(2), 0);
        Due.is("13: none left", index.closest(), NO_POINT);
        // As places 63 and 64 are neighbours, as points they are far apart.
        Due.is("13: places 63 and 64", withPoints(63, 64).closest(), 63 * 63 + 1);
    }

    private static void countCounts() {
        CellIndex index = new CellIndex();
        for (int i = 1; i <= 40; i++) {
            Due.is("14: add", index.add(0, 0), i - 1);
            Due.is("14: count()", index.count(), i);
        }
        Due.is("14: add to forty", index.add(0, 0), FULL);
        Due.is("14: count() after FULL", index.count(), 40);
        Due.is("14: move", index.move(0, 64), 0);
        Due.is("14: count() after move", index.count(), 40);
        Due.is("14: remove", index.remove(5), 39);
        Due.is("14: count() after remove", index.count(), 39);
        Due.is("14: clearBox", index.clearBox(0, 0), 38);
        Due.is("14: count() after clearBox", index.count(), 1);
    }

    private static void queriesRefuseBadPlaces() {
        CellIndex index = withPoints(0, 4095, 1000);
        for (int place : NOT_PLACES) {
            for (int good : new int[] {0, 4095}) {
                Due.is("6: countBox(" + place + ", " + good + ")", index.countBox(place, good), BAD_PLACE);
                Due.is("6: countBox(" + good + ", " + place + ")", index.countBox(good, place), BAD_PLACE);
                Due.is("7: sumBox(" + place + ", " + good + ")", index.sumBox(place, good), BAD_PLACE);
                Due.is("7: sumBox(" + good + ", " + place + ")", index.sumBox(good, place), BAD_PLACE);
                Due.is("10: firstIn(" + place + ", " + good + ")", index.firstIn(place, good), BAD_PLACE);
                Due.is("10: firstIn(" + good + ", " + place + ")", index.firstIn(good, place), BAD_PLACE);
            }
            Due.is("6: countBox twice " + place, index.countBox(place, place), BAD_PLACE);
            Due.is("7: sumBox twice " + place, index.sumBox(place, place), BAD_PLACE);
            Due.is("8: countNear(" + place + ", 9)", index.countNear(place, 9), BAD_PLACE);
            Due.is("10: firstIn twice " + place, index.firstIn(place, place), BAD_PLACE);
        }
    }

    private static void queriesChangeNothing() {
        CellIndex index = withPoints(at(1, 2), at(3, 4), at(1, 2), at(50, 60), at(63, 63));
        Due.is("remove(3)", index.remove(3), 4);
        String before = state(index);
        for (int round = 0; round < 2; round++) {
            Due.is("countBox", index.countBox(0, 4095), 4);
            Due.is("sumBox", index.sumBox(0, 4095), 407);
            Due.is("countNear", index.countNear(0, 25), 3);
            Due.is("nearest", index.nearest(0, 1), 2);
            Due.is("firstIn", index.firstIn(0, 4095), 0);
            Due.is("placeOf", index.placeOf(1), at(3, 4));
            Due.is("labelOf", index.labelOf(1), 101);
            Due.is("closest", index.closest(), 0);
            Due.is("count", index.count(), 4);
            Due.is("a refused countBox", index.countBox(0, 4096), BAD_PLACE);
            Due.is("a refused sumBox", index.sumBox(-1, 0), BAD_PLACE);
            Due.is("a refused countNear", index.countNear(-1, 0), BAD_PLACE);
            Due.is("a refused nearest", index.nearest(0, -1), BAD_RANK);
            Due.is("a refused firstIn", index.firstIn(0, -1), BAD_PLACE);
            Due.same("the state after the calls that change nothing", state(index), before);
        }
    }

    private static void objectsStandApart() {
        CellIndex one = withPoints(1, 2, 3);
        CellIndex other = new CellIndex();
        Due.is("1: a new object beside one with points", other.count(), 0);
        Due.is("1: add to the new one", other.add(9, 9), 0);
        Due.is("1: placeOf(0) in the first", one.placeOf(0), 1);
        Due.is("1: count() of the first", one.count(), 3);
    }
}
