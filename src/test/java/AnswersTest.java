/** The boundary cases of promises 6 to 15, the calls that change nothing: a test for each sentence. */
public final class AnswersTest {
    public static void main(String[] args) {
        countBox();
        sumBox();
        countNear();
        nearestOrder();
        nearestRefused();
        firstIn();
        placeOf();
        labelOf();
        closest();
        count();
        Due.end();
    }

    private static void countBox() {
        Due.test("6: How many points are in the box: none, one, forty", () -> {
            new Run().countBox(0, 4095).is(0);
            Run.withPoints(2080).countBox(0, 4095).is(1);
            Run.withPoints(2080).countBox(2080, 2080).is(1);
            Run.withPoints(2080).countBox(2081, 4095).is(0);
            Run.withForty().countBox(0, 4095).is(40);
            Run.withManyAt(4095, 40).countBox(4095, 4095).is(40);
            Run.withManyAt(4095, 40).countBox(0, 4094).is(0);
        });
        Due.test("6: How many points are in the box: just outside of each side", () -> {
            Run run = Run.withPoints(Run.at(9, 15), Run.at(21, 15), Run.at(15, 9), Run.at(15, 21),
                Run.at(10, 10), Run.at(20, 10), Run.at(10, 20), Run.at(20, 20));
            run.countBox(Run.at(10, 10), Run.at(20, 20)).is(4);
            run.countBox(Run.at(9, 10), Run.at(20, 20)).is(5);
            run.countBox(Run.at(10, 10), Run.at(21, 20)).is(5);
            run.countBox(Run.at(10, 9), Run.at(20, 20)).is(5);
            run.countBox(Run.at(10, 10), Run.at(20, 21)).is(5);
            run.countBox(Run.at(11, 11), Run.at(19, 19)).is(0);
        });
    }

    private static void sumBox() {
        int half = 1 << 30;
        Due.test("7: The sum of the labels: of none, 0", () -> {
            new Run().sumBox(0, 4095).is(0);
            Run.withPoints(10).sumBox(11, 11).is(0);
        });
        Due.test("7: The sum of the labels: the greatest and the least that do not wrap", () -> {
            withLabels(Run.MAX - 1, 1).sumBox(0, 4095).is(Run.MAX);
            withLabels(Run.MIN + 1, -1).sumBox(0, 4095).is(Run.MIN);
            withLabels(Run.MAX, Run.MIN).sumBox(0, 4095).is(-1);
        });
        Due.test("7: The sum (wrapping): above the greatest int", () -> {
            withLabels(Run.MAX, 1).sumBox(0, 4095).is(Run.MIN);
            withLabels(1, Run.MAX).sumBox(0, 4095).is(Run.MIN);
            withLabels(Run.MAX, Run.MAX).sumBox(0, 4095).is(-2);
            withLabels(half, half).sumBox(0, 4095).is(Run.MIN);
            withLabels(half, half, half, half).sumBox(0, 4095).is(0);
            withLabels(half, half, half, half, half).sumBox(0, 4095).is(half);
        });
        Due.test("7: The sum (wrapping): below the least int", () -> {
            withLabels(Run.MIN, -1).sumBox(0, 4095).is(Run.MAX);
            withLabels(-1, Run.MIN).sumBox(0, 4095).is(Run.MAX);
            withLabels(Run.MIN, Run.MIN).sumBox(0, 4095).is(0);
            withLabels(Run.MIN, Run.MIN, Run.MIN).sumBox(0, 4095).is(Run.MIN);
        });
        Due.test("7: The sum (wrapping): there and back", () -> {
            withLabels(Run.MAX, 5, -5).sumBox(0, 4095).is(Run.MAX);
            withLabels(Run.MIN, -5, 5).sumBox(0, 4095).is(Run.MIN);
            withLabels(Run.MAX, 1, Run.MIN, 7).sumBox(0, 4095).is(7);
        });
        Due.test("7: The sum (wrapping): of forty", () -> {
            Run greatest = new Run();
            Run least = new Run();
            for (int i = 0; i < 40; i++) {
                greatest.add(i, Run.MAX).is(i);
                least.add(i, Run.MIN).is(i);
            }
            greatest.sumBox(0, 4095).is(-40);
            greatest.sumBox(0, 38).is(Run.MAX - 38);
            least.sumBox(0, 4095).is(0);
            least.sumBox(0, 38).is(Run.MIN);
        });
        Due.test("7: (May equal BAD_PLACE.): a sum of -1 is a sum", () -> {
            withLabels(-1).sumBox(0, 4095).is(-1);
            withLabels(-1, 8).sumBox(0, 0).is(-1);
            withLabels(6, -7).sumBox(0, 4095).is(-1);
            withLabels(6, -7).sumBox(1, 1).is(-7);
            withLabels(-1, -1, -1, -1).sumBox(0, 4095).is(-4);
        });
    }

    /** Point i at place i, so that a box from 0 to 63 has them all. */
    private static Run withLabels(int... labels) {
        Run run = new Run();
        for (int i = 0; i < labels.length; i++) {
            run.add(i, labels[i]).is(i);
        }
        return run;
    }

    private static void countNear() {
        Due.test("8: at most this distance: none, one, forty", () -> {
            new Run().countNear(0, 0).is(0);
            new Run().countNear(0, Run.MAX).is(0);
            Run.withPoints(9).countNear(9, 0).is(1);
            Run.withManyAt(9, 40).countNear(9, 0).is(40);
            Run.withManyAt(9, 40).countNear(10, 0).is(0);
            Run.withManyAt(9, 40).countNear(10, 1).is(40);
            Run.withForty().countNear(4095, Run.MAX).is(40);
        });
        Due.test("8: at most this distance: just it is counted, one less is not", () -> {
            Run run = Run.withPoints(Run.at(10, 10), Run.at(10, 11), Run.at(11, 11), Run.at(13, 14),
                Run.at(5, 10), Run.at(63, 63));
            int[] distances = {0, 1, 2, 25, 25, 53 * 53 * 2};
            for (int distance : distances) {
                run.countNear(Run.at(10, 10), distance).is(atMost(distances, distance));
                run.countNear(Run.at(10, 10), distance - 1).is(atMost(distances, distance - 1));
                run.countNear(Run.at(10, 10), distance + 1).is(atMost(distances, distance + 1));
            }
        });
        Due.test("8: at most this distance: the greatest there is, and beyond", () -> {
            Run run = Run.withPoints(0, 4095);
            for (int corner : new int[] {0, 4095}) {
                run.countNear(corner, 7937).is(1);
                run.countNear(corner, 7938).is(2);
                run.countNear(corner, 7939).is(2);
                run.countNear(corner, 1 << 16).is(2);
                run.countNear(corner, Run.MAX - 1).is(2);
                run.countNear(corner, Run.MAX).is(2);
            }
        });
        Due.test("8: 0 for a distance below 0", () -> {
            for (Run run : new Run[] {new Run(), Run.withPoints(0), Run.withManyAt(0, 40)}) {
                for (int distance : new int[] {-1, -2, -25, -7938, -65536, Run.MIN + 1, Run.MIN}) {
                    run.countNear(0, distance).is(0);
                    run.countNear(4095, distance).is(0);
                }
            }
            Run.withManyAt(0, 40).countNear(0, 0).is(40);
        });
    }

    private static int atMost(int[] distances, int limit) {
        int counted = 0;
        for (int distance : distances) {
            counted += distance <= limit ? 1 : 0;
        }
        return counted;
    }

    private static void nearestOrder() {
        Due.test("9: rank-th nearest, from 0: the first and the last rank", () -> {
            Run run = Run.withPoints(Run.at(20, 25), Run.at(20, 20), Run.at(63, 63), Run.at(20, 21));
            int[] order = {1, 3, 0, 2};
            for (int rank = 0; rank < 4; rank++) {
                run.nearest(Run.at(20, 20), rank).is(order[rank]);
            }
            run.nearest(Run.at(20, 20), 4).is(Run.NO_POINT);
        });
        Due.test("9: rank-th nearest, from 0: one point is the nearest to all places", () -> {
            for (int corner : new int[] {0, 63, 4032, 4095}) {
                Run run = Run.withPoints(corner);
                for (int other : new int[] {0, 63, 4032, 4095}) {
                    run.nearest(other, 0).is(0);
                    run.nearest(other, 1).is(Run.NO_POINT);
                }
            }
        });
        Due.test("9: smaller distance first: by 1, and against the numbers", () -> {
            Run run = Run.withPoints(Run.at(63, 63), Run.at(63, 62), Run.at(1, 1), Run.at(1, 0), Run.at(0, 0));
            for (int rank = 0; rank < 5; rank++) {
                run.nearest(0, rank).is(4 - rank);
            }
        });
        Due.test("9: smaller distance first: forty, the farthest first in number", () -> {
            Run run = new Run();
            for (int i = 0; i < 40; i++) {
                run.add(Run.at(0, 39 - i), 0).is(i);
            }
            for (int rank = 0; rank < 40; rank++) {
                run.nearest(0, rank).is(39 - rank);
                run.nearest(Run.at(0, 63), rank).is(rank);
            }
        });
        Due.test("9: of equal distances the smaller number first: on all sides", () -> {
            Run run = Run.withPoints(Run.at(25, 20), Run.at(23, 24), Run.at(20, 20), Run.at(15, 20),
                Run.at(20, 15), Run.at(17, 16), Run.at(20, 25), Run.at(20, 26));
            int[] order = {2, 0, 1, 3, 4, 5, 6, 7};
            for (int rank = 0; rank < 8; rank++) {
                run.nearest(Run.at(20, 20), rank).is(order[rank]);
            }
        });
        Due.test("9: of equal distances the smaller number first: forty at one place", () -> {
            Run run = Run.withManyAt(77, 40);
            for (int rank = 0; rank < 40; rank++) {
                run.nearest(4000, rank).is(rank);
                run.nearest(77, rank).is(rank);
            }
        });
        Due.test("9: of equal distances the smaller number first: not the older point", () -> {
            Run run = Run.withPoints(5, 5, 5);
            run.remove(0).is(2);
            run.add(5, 9).is(0);
            run.nearest(5, 0).is(0);
            run.nearest(5, 1).is(1);
            run.nearest(5, 2).is(2);
            run.move(1, 70).is(5);
            run.move(1, 5).is(70);
            run.nearest(5, 1).is(1);
        });
        Due.test("9: the point: its number, also with gaps", () -> {
            Run run = Run.withPoints(1, 1, 1, 1, 1);
            run.remove(0).is(4);
            run.remove(3).is(3);
            run.nearest(0, 0).is(1);
            run.nearest(0, 1).is(2);
            run.nearest(0, 2).is(4);
            run.nearest(0, 3).is(Run.NO_POINT);
        });
    }

    private static void nearestRefused() {
        Due.test("9: there is no such point: NO_POINT: none, one, forty", () -> {
            new Run().nearest(0, 0).is(Run.NO_POINT);
            new Run().nearest(0, Run.MAX).is(Run.NO_POINT);
            for (int size : new int[] {1, 2, 39, 40}) {
                Run run = Run.withManyAt(0, size);
                run.nearest(0, size - 1).is(size - 1);
                for (int rank : new int[] {size, size + 1, 40, 41, 64, 256, 65536, Run.MAX - 1, Run.MAX}) {
                    run.nearest(0, rank).is(Run.NO_POINT);
                }
            }
        });
        Due.test("9: there is no such point: NO_POINT: when points are gone", () -> {
            Run run = Run.withPoints(0, 1, 2);
            run.nearest(0, 2).is(2);
            run.remove(0).is(2);
            run.nearest(0, 1).is(2);
            run.nearest(0, 2).is(Run.NO_POINT);
            run.clearBox(0, 4095).is(2);
            run.nearest(0, 0).is(Run.NO_POINT);
        });
        Due.test("9: rank below 0: BAD_RANK", () -> {
            for (Run run : new Run[] {Run.withPoints(0), Run.withForty()}) {
                for (int rank : new int[] {-1, -2, -40, -256, -65536, Run.MIN + 1, Run.MIN}) {
                    run.nearest(0, rank).is(Run.BAD_RANK);
                    run.nearest(4095, rank).is(Run.BAD_RANK);
                }
                run.nearest(0, 0).is(0);
            }
        });
        Due.test("15: nearest: BAD_PLACE ahead of BAD_RANK", () -> {
            for (int bad : Run.notPlaces()) {
                Run.withPoints(0).nearest(bad, -1).is(Run.BAD_PLACE);
                Run.withForty().nearest(bad, Run.MIN).is(Run.BAD_PLACE);
            }
        });
        Due.test("15: nearest: BAD_PLACE ahead of NO_POINT", () -> {
            for (int bad : Run.notPlaces()) {
                new Run().nearest(bad, 0).is(Run.BAD_PLACE);
                Run.withPoints(0).nearest(bad, 1).is(Run.BAD_PLACE);
                Run.withForty().nearest(bad, 40).is(Run.BAD_PLACE);
            }
        });
        Due.test("15: nearest: BAD_PLACE ahead of both", () -> {
            for (int bad : Run.notPlaces()) {
                new Run().nearest(bad, -1).is(Run.BAD_PLACE);
                new Run().nearest(bad, Run.MIN).is(Run.BAD_PLACE);
            }
        });
        Due.test("15: nearest: BAD_RANK ahead of NO_POINT", () -> {
            new Run().nearest(0, -1).is(Run.BAD_RANK);
            new Run().nearest(4095, Run.MIN).is(Run.BAD_RANK);
            Run run = Run.withPoints(0);
            run.remove(0).is(0);
            run.nearest(0, -1).is(Run.BAD_RANK);
        });
    }

    private static void firstIn() {
        Due.test("10: The smallest number of a point in the box: not the nearest to a corner", () -> {
            Run run = Run.withPoints(Run.at(63, 63), Run.at(9, 9), Run.at(8, 8), Run.at(9, 9));
            run.firstIn(0, 4095).is(0);
            run.firstIn(4095, 0).is(0);
            run.firstIn(Run.at(8, 8), Run.at(9, 9)).is(1);
            run.firstIn(Run.at(8, 8), Run.at(8, 8)).is(2);
            run.remove(1).is(3);
            run.firstIn(Run.at(8, 8), Run.at(9, 9)).is(2);
            run.firstIn(Run.at(9, 9), Run.at(9, 9)).is(3);
            run.add(Run.at(9, 8), 0).is(1);
            run.firstIn(Run.at(8, 8), Run.at(9, 9)).is(1);
        });
        Due.test("10: The smallest number of a point in the box: each of forty alone", () -> {
            Run run = Run.withForty();
            for (int number = 0; number < 40; number++) {
                run.firstIn(100 * number, 100 * number).is(number);
            }
        });
        Due.test("10: NO_POINT: none, one and forty, none of them in the box", () -> {
            new Run().firstIn(0, 4095).is(Run.NO_POINT);
            Run.withPoints(10).firstIn(11, 4095).is(Run.NO_POINT);
            Run.withManyAt(10, 40).firstIn(11, 4095).is(Run.NO_POINT);
            Run.withForty().firstIn(1, 1).is(Run.NO_POINT);
            Run run = Run.withPoints(10);
            run.move(0, 4095).is(10);
            run.firstIn(0, 10).is(Run.NO_POINT);
            run.remove(0).is(0);
            run.firstIn(0, 4095).is(Run.NO_POINT);
        });
    }

    private static void placeOf() {
        Due.test("11: The place of a point: the first and the last place and number", () -> {
            Run run = Run.withForty();
            run.placeOf(0).is(0);
            run.placeOf(39).is(3900);
            run.move(39, 4095).is(3900);
            run.placeOf(39).is(4095);
            run.placeOf(38).is(3800);
        });
        Due.test("11: NO_POINT: not a number from 0 to 39", () -> {
            for (Run run : new Run[] {new Run(), Run.withPoints(0), Run.withForty()}) {
                for (int bad : Run.notNumbers()) {
                    run.placeOf(bad).is(Run.NO_POINT);
                }
            }
        });
        Due.test("11: NO_POINT: a number that no point has, or has no more", () -> {
            Run run = Run.withPoints(50, 60, 70);
            run.placeOf(3).is(Run.NO_POINT);
            run.placeOf(39).is(Run.NO_POINT);
            run.remove(1).is(2);
            run.placeOf(1).is(Run.NO_POINT);
            run.placeOf(2).is(70);
            run.clearBox(50, 50).is(1);
            run.placeOf(0).is(Run.NO_POINT);
            run.placeOf(2).is(70);
        });
    }

    private static void labelOf() {
        Due.test("12: The label of a point: the first and the last number", () -> {
            Run run = Run.withForty();
            run.labelOf(0).is(100);
            run.labelOf(39).is(139);
        });
        Due.test("12: The label of a point: stays when it moves", () -> {
            Run run = new Run();
            run.add(5, Run.MIN).is(0);
            run.move(0, 4095).is(5);
            run.labelOf(0).is(Run.MIN);
        });
        Due.test("12: 0 if there is none: not a number from 0 to 39", () -> {
            for (Run run : new Run[] {new Run(), Run.withPoints(0), Run.withForty()}) {
                for (int bad : Run.notNumbers()) {
                    run.labelOf(bad).is(0);
                }
            }
        });
        Due.test("12: 0 if there is none: a number that no point has, or has no more", () -> {
            Run run = Run.withPoints(50, 60, 70);
            run.labelOf(3).is(0);
            run.labelOf(39).is(0);
            run.remove(1).is(2);
            run.labelOf(1).is(0);
            run.labelOf(2).is(102);
            run.clearBox(50, 50).is(1);
            run.labelOf(0).is(0);
            run.labelOf(2).is(102);
        });
        Due.test("12: 0 if there is none: a label of 0 is a label, the point is there", () -> {
            Run run = new Run();
            run.add(5, 0).is(0);
            run.labelOf(0).is(0);
            run.placeOf(0).is(5);
            run.count().is(1);
            run.remove(0).is(0);
        });
        Due.test("12: The label of a point: may equal the refusals of other calls", () -> {
            Run run = withLabels(Run.BAD_PLACE, Run.FULL, Run.NO_POINT, Run.BAD_RANK);
            for (int number = 0; number < 4; number++) {
                run.labelOf(number).is(-1 - number);
            }
        });
    }

    private static void closest() {
        Due.test("13: NO_POINT if there are fewer than two: none, one, and two", () -> {
            Run run = new Run();
            run.closest().is(Run.NO_POINT);
            run.add(0, 0).is(0);
            run.closest().is(Run.NO_POINT);
            run.add(4095, 0).is(1);
            run.closest().is(7938);
        });
        Due.test("13: NO_POINT if there are fewer than two: when a box was cleared", () -> {
            Run run = Run.withForty();
            run.clearBox(0, Run.at(63, 59)).is(39);
            run.closest().is(Run.NO_POINT);
            run.clearBox(0, 4095).is(1);
            run.closest().is(Run.NO_POINT);
        });
        Due.test("13: NO_POINT if there are fewer than two: one left, whichever", () -> {
            for (int left = 0; left < 3; left++) {
                Run run = Run.withPoints(5, 5, 5);
                run.closest().is(0);
                for (int number = 0; number < 3; number++) {
                    if (number != left) {
                        run.remove(number);
                    }
                }
                run.count().is(1);
                run.closest().is(Run.NO_POINT);
                run.remove(left).is(0);
                run.closest().is(Run.NO_POINT);
            }
        });
        Due.test("13: The least distance between any two points: 0 at the same place", () -> {
            Run.withPoints(0, 0).closest().is(0);
            Run.withPoints(4095, 4095).closest().is(0);
            Run.withPoints(1, 4095, 1).closest().is(0);
            Run.withManyAt(7, 40).closest().is(0);
        });
        Due.test("13: The least distance between any two points: any two of forty", () -> {
            for (int one = 0; one < 40; one++) {
                for (int other = 0; other < 40; other++) {
                    if (one != other) {
                        closestAre(one, other);
                    }
                }
            }
        });
        Due.test("13: The least distance between any two points: of those that are left", () -> {
            Run run = Run.withPoints(Run.at(0, 0), Run.at(0, 1), Run.at(20, 0), Run.at(22, 0));
            run.closest().is(1);
            run.remove(0).is(3);
            run.closest().is(4);
            run.clearBox(Run.at(20, 0), Run.at(20, 0)).is(1);
            run.closest().is(22 * 22 + 1);
            run.move(3, Run.at(63, 63)).is(Run.at(22, 0));
            run.closest().is(63 * 63 + 62 * 62);
        });
    }

    /** Forty points nine and more apart on an axis, then one of them beside another. */
    private static void closestAre(int one, int other) {
        int[] places = new int[40];
        for (int i = 0; i < 40; i++) {
            places[i] = Run.at(9 * (i % 7), 9 * (i / 7));
        }
        places[one] = places[other] + 1;
        Run.withPoints(places).closest().is(1);
    }

    private static void count() {
        Due.test("14: How many points there are: from none to forty and back", () -> {
            Run run = new Run();
            run.count().is(0);
            for (int size = 1; size <= 40; size++) {
                run.add(size, 0).is(size - 1);
                run.count().is(size);
            }
            for (int size = 39; size >= 0; size--) {
                run.remove(39 - size).is(size);
                run.count().is(size);
            }
        });
        Due.test("14: How many points there are: a refused call counts for nothing", () -> {
            Run run = Run.withForty();
            run.add(0, 0).is(Run.FULL);
            run.add(-1, 0).is(Run.BAD_PLACE);
            run.count().is(40);
            run.remove(40).is(Run.NO_POINT);
            run.remove(-1).is(Run.NO_POINT);
            run.clearBox(0, 4096).is(Run.BAD_PLACE);
            run.clearBox(-1, 4095).is(Run.BAD_PLACE);
            run.count().is(40);
            run.remove(5).is(39);
            run.remove(5).is(Run.NO_POINT);
            run.count().is(39);
        });
        Due.test("14: How many points there are: a move counts for nothing", () -> {
            Run run = Run.withSome(2);
            run.move(0, 100).is(0);
            run.move(0, 4096).is(Run.BAD_PLACE);
            run.move(2, 0).is(Run.NO_POINT);
            run.count().is(2);
        });
        Due.test("14: How many points there are: after a box was cleared", () -> {
            Run run = Run.withForty();
            run.clearBox(1, 1).is(0);
            run.count().is(40);
            run.clearBox(0, 0).is(1);
            run.count().is(39);
            run.clearBox(0, 4095).is(39);
            run.count().is(0);
            run.clearBox(0, 4095).is(0);
            run.count().is(0);
        });
    }
}
