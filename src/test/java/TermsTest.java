import java.util.function.Function;

/** The boundary cases that stand under "What it is" and "Terms", a test for each sentence. */
public final class TermsTest {
    private static final int[][] BOXES = {
        // left, top, right, bottom
        {10, 30, 20, 35}, {0, 0, 63, 63}, {0, 0, 0, 0}, {63, 63, 63, 63}, {63, 0, 63, 0}, {0, 63, 0, 63},
        {31, 32, 31, 32}, {0, 0, 63, 0}, {0, 63, 63, 63}, {0, 0, 0, 63}, {63, 0, 63, 63}, {0, 5, 63, 5},
        {5, 0, 5, 63}, {1, 1, 62, 62}, {0, 0, 1, 1}, {62, 62, 63, 63}, {0, 0, 63, 1}};

    private static final int[] LABELS = {
        Run.MIN, Run.MIN + 1, -65536, -32769, -32768, -129, -128, -4, -3, -2, -1, 0, 1, 39, 40, 127, 128,
        255, 256, 4095, 4096, 32767, 32768, 65535, 65536, Run.MAX - 1, Run.MAX};

    public static void main(String[] args) {
        lifeOfAnObject();
        squareAndPoints();
        boxes();
        callsThatChangeNothing();
        badPlaceTestedFirst();
        Due.end();
    }

    private static void lifeOfAnObject() {
        Due.test("used for at most 512 calls: the last of them, adding and removing", () -> {
            Run run = new Run();
            for (int i = 0; i < 256; i++) {
                run.add(i, i).is(0);
                run.remove(0).is(0);
            }
            Due.is("calls left", run.callsLeft(), 0);
        });
        Due.test("used for at most 512 calls: the last of them, refused all along", () -> {
            Run run = Run.withForty();
            while (run.callsLeft() > 4) {
                run.add(0, 1).is(Run.FULL);
            }
            run.count().is(40);
            run.remove(17).is(39);
            run.add(4095, 1).is(17);
            run.add(4095, 1).is(Run.FULL);
            Due.is("calls left", run.callsLeft(), 0);
        });
        Due.test("used for at most 512 calls: the last of them, asking all along", () -> {
            Run run = Run.withPoints(7, 8);
            while (run.callsLeft() > 10) {
                run.nearest(8, 1).is(0);
                run.closest().is(1);
            }
            while (run.callsLeft() > 2) {
                run.count().is(2);
            }
            run.clearBox(0, 7).is(1);
            run.firstIn(0, 63).is(1);
            Due.is("calls left", run.callsLeft(), 0);
        });
        Due.test("what later calls answer is free: but they end, and throw nothing", () -> {
            CellIndex index = new CellIndex();
            int[] values = {0, 4095, -1, 4096, 39, 40, Run.MIN, Run.MAX};
            for (int round = 0; round < 100; round++) {
                for (int one : values) {
                    for (int other : values) {
                        callAll(index, one, other);
                    }
                }
            }
        });
    }

    private static void callAll(CellIndex index, int one, int other) {
        index.add(one, other);
        index.countBox(one, other);
        index.sumBox(one, other);
        index.countNear(one, other);
        index.nearest(one, other);
        index.firstIn(one, other);
        index.placeOf(one);
        index.labelOf(one);
        index.closest();
        index.count();
        index.move(one, other);
        index.add(other & 4095, one);
        index.remove(one);
        if (one == 0) {
            index.clearBox(one, other);
        }
    }

    private static void squareAndPoints() {
        Due.test("x and y, each 0 to 63: the four corners are four places", () -> {
            int[] corners = {Run.at(0, 0), Run.at(63, 0), Run.at(0, 63), Run.at(63, 63)};
            Run run = Run.withPoints(corners);
            for (int i = 0; i < 4; i++) {
                run.placeOf(i).is(corners[i]);
                run.countBox(corners[i], corners[i]).is(1);
                run.firstIn(corners[i], corners[i]).is(i);
                run.nearest(corners[i], 0).is(i);
                run.countNear(corners[i], 0).is(1);
            }
            run.closest().is(63 * 63);
        });
        Due.test("x 0 to 63: the end of a row is far from the start of the next", () -> {
            Run run = Run.withPoints(63, 64);
            run.closest().is(63 * 63 + 1);
            run.countNear(63, 63 * 63).is(1);
            run.countNear(63, 63 * 63 + 1).is(2);
            run.countBox(0, 63).is(1);
            run.countBox(64, 127).is(1);
        });
        Due.test("up to forty POINTS, each with a NUMBER of its own from 0 to 39", () -> {
            Run run = new Run();
            run.placeOf(0).is(Run.NO_POINT);
            for (int i = 0; i < 40; i++) {
                run.add(i, i).is(i);
                run.count().is(i + 1);
                run.placeOf(i).is(i);
                run.placeOf(i + 1).is(Run.NO_POINT);
            }
            run.placeOf(-1).is(Run.NO_POINT);
            run.add(40, 40).is(Run.FULL);
            run.placeOf(40).is(Run.NO_POINT);
            run.count().is(40);
        });
        Due.test("a LABEL (an int): the least and the greatest int", () -> {
            Run run = new Run();
            for (int i = 0; i < LABELS.length; i++) {
                run.add(i, LABELS[i]).is(i);
            }
            for (int i = 0; i < LABELS.length; i++) {
                run.labelOf(i).is(LABELS[i]);
                run.sumBox(i, i).is(LABELS[i]);
            }
        });
        for (int place : new int[] {0, 4095, 2080}) {
            Due.test("several points may stand at the same place: forty of them at " + place,
                () -> fortyAt(place));
        }
        Due.test("several points may stand at the same place: moved there", () -> {
            Run run = Run.withForty();
            for (int i = 0; i < 40; i++) {
                run.move(i, 4095).is(100 * i);
                run.countBox(4095, 4095).is(i + 1);
            }
            run.closest().is(0);
        });
        Due.test("The DISTANCE of two places: every difference, from each corner", () -> {
            for (int corner : new int[] {Run.at(0, 0), Run.at(63, 0), Run.at(0, 63), Run.at(63, 63)}) {
                for (int place = 0; place < 4096; place++) {
                    distanceIs(corner, place);
                }
            }
        });
        Due.test("The DISTANCE of two places: the least and the greatest", () -> {
            Run.withPoints(2080, 2080).closest().is(0);
            Run.withPoints(2080, 2081).closest().is(1);
            Run.withPoints(2080, 2144).closest().is(1);
            Run.withPoints(Run.at(0, 0), Run.at(63, 63)).closest().is(7938);
            Run.withPoints(Run.at(63, 0), Run.at(0, 63)).closest().is(7938);
        });
    }

    private static void fortyAt(int place) {
        Run run = Run.withManyAt(place, 40);
        run.countBox(place, place).is(40);
        run.countNear(place, 0).is(40);
        run.sumBox(place, place).is(40 * 100 + 39 * 20);
        run.closest().is(0);
        run.remove(20).is(39);
        run.placeOf(19).is(place);
        run.placeOf(20).is(Run.NO_POINT);
        run.placeOf(21).is(place);
        run.labelOf(39).is(139);
        run.countBox(place, place).is(39);
        run.move(39, 1).is(place);
        run.countBox(place, place).is(38);
        run.clearBox(place, place).is(38);
        run.firstIn(0, 4095).is(39);
    }

    private static void distanceIs(int one, int other) {
        int dx = one % 64 - other % 64;
        int dy = one / 64 - other / 64;
        int distance = dx * dx + dy * dy;
        Run run = Run.withPoints(other);
        run.countNear(one, distance).is(1);
        run.countNear(one, distance - 1).is(0);
        run.add(one, 0).is(1);
        run.closest().is(distance);
    }

    private static void boxes() {
        for (int[] box : BOXES) {
            String name = "(" + box[0] + ", " + box[1] + ") to (" + box[2] + ", " + box[3] + ")";
            Due.test("A BOX .. in either order, .. these counted in: every place, " + name,
                () -> everyPlaceOf(box));
        }
        Due.test("two places as its corners, in either order: numbers and labels", () -> {
            int[] places = {Run.at(9, 9), Run.at(10, 30), Run.at(20, 35), Run.at(21, 36), Run.at(10, 35)};
            int[][] orders = cornersOf(new int[] {10, 30, 20, 35});
            for (int[] order : orders) {
                Run run = Run.withPoints(places);
                run.countBox(order[0], order[1]).is(3);
                run.sumBox(order[0], order[1]).is(101 + 102 + 104);
                run.firstIn(order[0], order[1]).is(1);
                run.clearBox(order[0], order[1]).is(3);
                run.count().is(2);
                run.placeOf(0).is(places[0]);
                run.placeOf(3).is(places[3]);
            }
        });
        Due.test("A BOX: corners 63 and 64 are two whole rows, not two places", () -> {
            Run run = Run.withPoints(0, 30, 63, 64, 100, 127, 128, 4095);
            run.countBox(63, 64).is(6);
            run.countBox(64, 63).is(6);
            run.clearBox(64, 63).is(6);
            run.firstIn(0, 4095).is(6);
        });
        Due.test("A place is given as x + 64 * y (0 to 4095): every one of them", () -> {
            for (int place = 0; place < 4096; place++) {
                placeIsKept(place);
            }
        });
    }

    /** A point at each place of the square in turn, asked for by the box in its four orders. */
    private static void everyPlaceOf(int[] box) {
        int[][] orders = cornersOf(box);
        for (int place = 0; place < 4096; place++) {
            int x = place % 64;
            int y = place / 64;
            boolean in = box[0] <= x && x <= box[2] && box[1] <= y && y <= box[3];
            for (int[] order : orders) {
                Run run = Run.withPoints(place);
                run.countBox(order[0], order[1]).is(in ? 1 : 0);
                run.sumBox(order[0], order[1]).is(in ? 100 : 0);
                run.firstIn(order[0], order[1]).is(in ? 0 : Run.NO_POINT);
                run.clearBox(order[0], order[1]).is(in ? 1 : 0);
                run.count().is(in ? 0 : 1);
            }
        }
    }

    private static int[][] cornersOf(int[] box) {
        int leftTop = Run.at(box[0], box[1]);
        int rightTop = Run.at(box[2], box[1]);
        int leftBottom = Run.at(box[0], box[3]);
        int rightBottom = Run.at(box[2], box[3]);
        return new int[][] {{leftTop, rightBottom}, {rightBottom, leftTop},
            {rightTop, leftBottom}, {leftBottom, rightTop}};
    }

    private static void placeIsKept(int place) {
        Run run = Run.withPoints(place);
        run.placeOf(0).is(place);
        run.countBox(place, place).is(1);
        run.countNear(place, 0).is(1);
        run.nearest(place, 0).is(0);
        run.move(0, 4095 - place).is(place);
        run.placeOf(0).is(4095 - place);
        run.move(0, place).is(4095 - place);
        run.clearBox(place, place).is(1);
    }

    /** "The calls below change nothing", for each of the nine. */
    private static void callsThatChangeNothing() {
        changesNothing("countBox", run -> run.countBox(0, 4095), run -> run.countBox(100, 100),
            run -> run.countBox(-1, 0), run -> run.countBox(0, 4096));
        changesNothing("sumBox", run -> run.sumBox(0, 4095), run -> run.sumBox(100, 100),
            run -> run.sumBox(-1, 0), run -> run.sumBox(0, 4096));
        changesNothing("countNear", run -> run.countNear(100, 0), run -> run.countNear(4095, Run.MAX),
            run -> run.countNear(0, -1), run -> run.countNear(-1, 1), run -> run.countNear(4096, 1));
        changesNothing("nearest", run -> run.nearest(4095, 0), run -> run.nearest(4095, 39),
            run -> run.nearest(0, 40), run -> run.nearest(0, -1), run -> run.nearest(-1, 0),
            run -> run.nearest(4096, 0));
        changesNothing("firstIn", run -> run.firstIn(0, 4095), run -> run.firstIn(100, 100),
            run -> run.firstIn(1, 1), run -> run.firstIn(-1, 0), run -> run.firstIn(0, 4096));
        changesNothing("placeOf", run -> run.placeOf(0), run -> run.placeOf(39),
            run -> run.placeOf(40), run -> run.placeOf(-1));
        changesNothing("labelOf", run -> run.labelOf(0), run -> run.labelOf(39),
            run -> run.labelOf(40), run -> run.labelOf(-1));
        changesNothing("closest", run -> run.closest());
        changesNothing("count", run -> run.count());
    }

    /** With no point, one, two and forty, and with gaps among the numbers. */
    @SafeVarargs
    private static void changesNothing(String name, Function<Run, Run.Answer>... calls) {
        Due.test("The calls below change nothing: " + name, () -> {
            for (Function<Run, Run.Answer> call : calls) {
                for (int size : new int[] {0, 1, 2, 40}) {
                    Run run = Run.withSome(size);
                    run.unchangedBy(call);
                    run.add(5, 5).is(size == 40 ? Run.FULL : size);
                }
                Run gaps = Run.withSome(10);
                gaps.remove(3).is(9);
                gaps.remove(0).is(8);
                gaps.unchangedBy(call);
                gaps.add(5, 5).is(0);
                gaps.add(5, 5).is(3);
            }
        });
    }

    /** "A place not in 0 to 4095 is BAD_PLACE, tested first", for each of the five that take one. */
    private static void badPlaceTestedFirst() {
        Due.test("BAD_PLACE, tested first: countBox", () -> {
            for (Run run : someRuns()) {
                for (int bad : Run.notPlaces()) {
                    run.countBox(bad, 0).is(Run.BAD_PLACE);
                    run.countBox(4095, bad).is(Run.BAD_PLACE);
                    run.countBox(bad, bad).is(Run.BAD_PLACE);
                }
            }
            Run.withPoints(0, 4095).countBox(0, 4095).is(2);
            Run.withPoints(0, 4095).countBox(4095, 0).is(2);
            Run.withPoints(0, 4095).countBox(0, 0).is(1);
            Run.withPoints(0, 4095).countBox(4095, 4095).is(1);
        });
        Due.test("BAD_PLACE, tested first: sumBox", () -> {
            for (Run run : someRuns()) {
                for (int bad : Run.notPlaces()) {
                    run.sumBox(bad, 0).is(Run.BAD_PLACE);
                    run.sumBox(4095, bad).is(Run.BAD_PLACE);
                    run.sumBox(bad, bad).is(Run.BAD_PLACE);
                }
            }
            Run.withPoints(0, 4095).sumBox(0, 4095).is(201);
            Run.withPoints(0, 4095).sumBox(4095, 0).is(201);
            Run.withPoints(0, 4095).sumBox(0, 0).is(100);
            Run.withPoints(0, 4095).sumBox(4095, 4095).is(101);
        });
        Due.test("BAD_PLACE, tested first: countNear, ahead of a distance below 0", () -> {
            for (Run run : someRuns()) {
                for (int bad : Run.notPlaces()) {
                    run.countNear(bad, 0).is(Run.BAD_PLACE);
                    run.countNear(bad, Run.MAX).is(Run.BAD_PLACE);
                    run.countNear(bad, -1).is(Run.BAD_PLACE);
                    run.countNear(bad, Run.MIN).is(Run.BAD_PLACE);
                }
            }
            Run.withPoints(0, 4095).countNear(0, 0).is(1);
            Run.withPoints(0, 4095).countNear(4095, 0).is(1);
        });
        Due.test("BAD_PLACE, tested first: nearest, ahead of BAD_RANK and NO_POINT", () -> {
            for (Run run : someRuns()) {
                for (int bad : Run.notPlaces()) {
                    run.nearest(bad, 0).is(Run.BAD_PLACE);
                    run.nearest(bad, 40).is(Run.BAD_PLACE);
                    run.nearest(bad, -1).is(Run.BAD_PLACE);
                    run.nearest(bad, Run.MIN).is(Run.BAD_PLACE);
                }
            }
            Run.withPoints(0, 4095).nearest(0, 0).is(0);
            Run.withPoints(0, 4095).nearest(4095, 0).is(1);
        });
        Due.test("BAD_PLACE, tested first: firstIn, ahead of NO_POINT", () -> {
            for (Run run : someRuns()) {
                for (int bad : Run.notPlaces()) {
                    run.firstIn(bad, 0).is(Run.BAD_PLACE);
                    run.firstIn(4095, bad).is(Run.BAD_PLACE);
                    run.firstIn(bad, bad).is(Run.BAD_PLACE);
                }
            }
            Run.withPoints(0, 4095).firstIn(0, 4095).is(0);
            Run.withPoints(0, 4095).firstIn(4095, 0).is(0);
            Run.withPoints(0, 4095).firstIn(0, 0).is(0);
            Run.withPoints(0, 4095).firstIn(4095, 4095).is(1);
        });
    }

    private static Run[] someRuns() {
        return new Run[] {new Run(), Run.withPoints(0), Run.withForty()};
    }
}
