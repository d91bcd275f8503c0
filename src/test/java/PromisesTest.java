/** Each promise by itself, in ordinary use; the boundary cases have tests of their own elsewhere. */
public final class PromisesTest {
    public static void main(String[] args) {
        Due.test("1: A new object", () -> {
            Run run = new Run();
            run.count().is(0);
            run.countBox(0, 4095).is(0);
        });
        Due.test("2: add", () -> {
            Run run = new Run();
            run.add(Run.at(30, 20), 8).is(0);
            run.add(Run.at(7, 50), -9).is(1);
            run.placeOf(0).is(Run.at(30, 20));
            run.labelOf(0).is(8);
            run.placeOf(1).is(Run.at(7, 50));
            run.labelOf(1).is(-9);
            run.count().is(2);
        });
        Due.test("3: remove", () -> {
            Run run = Run.withPoints(10, 20, 30);
            run.remove(1).is(2);
            run.placeOf(0).is(10);
            run.placeOf(1).is(Run.NO_POINT);
            run.placeOf(2).is(30);
            run.count().is(2);
            run.remove(2).is(1);
        });
        Due.test("4: move", () -> {
            Run run = Run.withPoints(100, 200, 300);
            run.move(1, 250).is(200);
            run.placeOf(0).is(100);
            run.placeOf(1).is(250);
            run.placeOf(2).is(300);
            run.labelOf(1).is(101);
            run.move(1, 260).is(250);
        });
        Due.test("5: clearBox", () -> {
            Run run = Run.withPoints(Run.at(6, 6), Run.at(12, 8), Run.at(7, 20), Run.at(8, 7), Run.at(20, 7));
            run.clearBox(Run.at(5, 5), Run.at(15, 10)).is(3);
            run.count().is(2);
            run.placeOf(0).is(Run.NO_POINT);
            run.placeOf(1).is(Run.NO_POINT);
            run.placeOf(2).is(Run.at(7, 20));
            run.placeOf(3).is(Run.NO_POINT);
            run.placeOf(4).is(Run.at(20, 7));
        });
        asking();
        Due.end();
    }

    private static void asking() {
        Run run = Run.withPoints(Run.at(40, 40), Run.at(12, 12), Run.at(43, 44), Run.at(14, 13), Run.at(30, 12));
        int left = Run.at(10, 10);
        int right = Run.at(35, 15);
        Due.test("6: countBox", () -> run.countBox(left, right).is(3));
        Due.test("7: sumBox", () -> run.sumBox(left, right).is(101 + 103 + 104));
        Due.test("8: countNear", () -> {
            run.countNear(Run.at(13, 13), 10).is(2);
            run.countNear(Run.at(13, 13), 400).is(3);
        });
        Due.test("9: nearest", () -> {
            int[] order = {3, 1, 4, 0, 2};
            for (int rank = 0; rank < 5; rank++) {
                run.nearest(Run.at(14, 14), rank).is(order[rank]);
            }
        });
        Due.test("10: firstIn", () -> {
            run.firstIn(left, right).is(1);
            run.firstIn(Run.at(13, 10), right).is(3);
        });
        Due.test("11: placeOf", () -> run.placeOf(2).is(Run.at(43, 44)));
        Due.test("12: labelOf", () -> run.labelOf(2).is(102));
        Due.test("13: closest", () -> run.closest().is(5));
        Due.test("14: count", () -> run.count().is(5));
        Due.test("15: Order and limits", () -> {
            run.nearest(4096, -1).is(Run.BAD_PLACE);
            run.nearest(30, -1).is(Run.BAD_RANK);
            run.nearest(30, 5).is(Run.NO_POINT);
        });
    }
}
