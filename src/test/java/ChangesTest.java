/** The boundary cases of promises 1 to 5, the calls that change something: a test for each sentence. */
public final class ChangesTest {
    public static void main(String[] args) {
        newObject();
        addBadPlace();
        addFull();
        addNumbers();
        removeNoPoint();
        removeLeft();
        moveRefused();
        moveOldPlace();
        clearBoxRefused();
        clearBoxHowMany();
        Due.end();
    }

    private static void newObject() {
        Due.test("1: No points: none has a number", () -> {
            Run run = new Run();
            for (int number = 0; number < 40; number++) {
                run.placeOf(number).is(Run.NO_POINT);
                run.labelOf(number).is(0);
                run.remove(number).is(Run.NO_POINT);
                run.move(number, 0).is(Run.NO_POINT);
            }
        });
        Due.test("1: No points: none is counted or found", () -> {
            Run run = new Run();
            run.count().is(0);
            run.countBox(0, 4095).is(0);
            run.countBox(0, 0).is(0);
            run.sumBox(0, 4095).is(0);
            run.countNear(0, 0).is(0);
            run.countNear(0, Run.MAX).is(0);
            run.nearest(0, 0).is(Run.NO_POINT);
            run.firstIn(0, 4095).is(Run.NO_POINT);
            run.firstIn(0, 0).is(Run.NO_POINT);
            run.closest().is(Run.NO_POINT);
            run.clearBox(0, 4095).is(0);
            run.clearBox(0, 0).is(0);
            run.add(0, 0).is(0);
        });
        Due.test("1: No points: whatever an earlier object holds", () -> {
            Run earlier = Run.withForty();
            Run run = new Run();
            run.count().is(0);
            run.placeOf(0).is(Run.NO_POINT);
            run.add(9, 9).is(0);
            run.clearBox(0, 4095).is(1);
            earlier.count().is(40);
            earlier.placeOf(0).is(0);
            earlier.labelOf(0).is(100);
        });
    }

    private static void addBadPlace() {
        Due.test("2: place not in 0 to 4095: BAD_PLACE: the last that are allowed", () -> {
            Run run = new Run();
            run.add(0, 1).is(0);
            run.add(4095, 2).is(1);
            run.placeOf(0).is(0);
            run.placeOf(1).is(4095);
        });
        Due.test("2: place not in 0 to 4095: BAD_PLACE; nothing changes then", () -> {
            for (int size : new int[] {0, 1, 39}) {
                for (int bad : Run.notPlaces()) {
                    Run run = Run.withSome(size);
                    run.unchangedBy(same -> same.add(bad, 1)).is(Run.BAD_PLACE);
                    run.add(4095, 1).is(size);
                }
            }
        });
        Due.test("2: Tests in this order: BAD_PLACE ahead of FULL; nothing changes then", () -> {
            for (int bad : Run.notPlaces()) {
                Run run = Run.withForty();
                run.unchangedBy(same -> same.add(bad, 1)).is(Run.BAD_PLACE);
                run.add(4095, 1).is(Run.FULL);
            }
        });
        Due.test("2: nothing changes then: a refused label is nowhere", () -> {
            Run run = new Run();
            run.add(-1, 77).is(Run.BAD_PLACE);
            run.add(4096, 77).is(Run.BAD_PLACE);
            run.labelOf(0).is(0);
            run.sumBox(0, 4095).is(0);
            run.countNear(4095, Run.MAX).is(0);
        });
    }

    private static void addFull() {
        Due.test("2: there are forty: FULL: the fortieth is taken, the next is not", () -> {
            Run run = Run.withSome(39);
            run.add(3900, 139).is(39);
            run.add(3900, 140).is(Run.FULL);
            run.count().is(40);
        });
        Due.test("2: there are forty: FULL; nothing changes then", () -> {
            for (int place : new int[] {0, 1, 2080, 4095}) {
                Run run = Run.withForty();
                run.unchangedBy(same -> same.add(place, 7)).is(Run.FULL);
            }
        });
        Due.test("2: there are forty: FULL: no longer when one is gone", () -> {
            for (int gone : new int[] {0, 1, 20, 38, 39}) {
                Run run = Run.withForty();
                run.add(1, 1).is(Run.FULL);
                run.remove(gone).is(39);
                run.add(4095, 7).is(gone);
                run.placeOf(gone).is(4095);
                run.labelOf(gone).is(7);
                run.add(1, 1).is(Run.FULL);
            }
        });
        Due.test("2: there are forty: FULL: at one place as well", () ->
            Run.withManyAt(0, 40).add(0, 0).is(Run.FULL));
        Due.test("2: there are forty: FULL: a move makes no room", () -> {
            Run run = Run.withForty();
            run.move(39, 0).is(3900);
            run.add(3900, 1).is(Run.FULL);
        });
    }

    private static void addNumbers() {
        Due.test("2: the smallest number that no point has: 0 to 39 in turn", () -> {
            Run run = new Run();
            for (int number = 0; number < 40; number++) {
                run.add(4095 - number, number).is(number);
            }
        });
        Due.test("2: the smallest number that no point has: the lowest gap first", () -> {
            Run run = Run.withForty();
            for (int gone : new int[] {39, 7, 21, 0, 38}) {
                run.remove(gone);
            }
            for (int number : new int[] {0, 7, 21, 38, 39}) {
                run.add(50, number).is(number);
            }
            run.add(50, 50).is(Run.FULL);
        });
        Due.test("2: the smallest number that no point has: not the one that went last", () -> {
            Run run = Run.withSome(3);
            run.remove(0).is(2);
            run.remove(2).is(1);
            run.add(1, 1).is(0);
            run.add(1, 1).is(2);
            run.add(1, 1).is(3);
        });
        Due.test("2: the smallest number that no point has: after a box was cleared", () -> {
            Run run = Run.withPoints(9, 5, 9, 5, 9);
            run.clearBox(5, 5).is(2);
            run.add(1, 1).is(1);
            run.add(1, 1).is(3);
            run.add(1, 1).is(5);
            run.clearBox(0, 4095).is(6);
            run.add(1, 1).is(0);
        });
        Due.test("2: it gets the number, with its own place and label, not the old ones", () -> {
            Run run = Run.withPoints(8, 9);
            run.remove(0).is(1);
            run.add(4000, -5).is(0);
            run.placeOf(0).is(4000);
            run.labelOf(0).is(-5);
            run.countBox(8, 8).is(0);
            run.countBox(9, 9).is(1);
        });
    }

    private static void removeNoPoint() {
        Due.test("3: There is no such point: NO_POINT: not a number from 0 to 39", () -> {
            for (int size : new int[] {0, 1, 40}) {
                for (int bad : Run.notNumbers()) {
                    Run.withSome(size).unchangedBy(same -> same.remove(bad)).is(Run.NO_POINT);
                }
            }
        });
        Due.test("3: There is no such point: NO_POINT: a number that no point has", () -> {
            for (int size : new int[] {0, 1, 2, 39}) {
                for (int number = size; number < 40; number++) {
                    int none = number;
                    Run.withSome(size).unchangedBy(same -> same.remove(none)).is(Run.NO_POINT);
                }
            }
        });
        Due.test("3: There is no such point: NO_POINT: one that is gone", () -> {
            Run run = Run.withSome(3);
            run.remove(1).is(2);
            run.unchangedBy(same -> same.remove(1)).is(Run.NO_POINT);
            run.clearBox(200, 200).is(1);
            run.remove(2).is(Run.NO_POINT);
            run.remove(0).is(0);
            run.remove(0).is(Run.NO_POINT);
            run.count().is(0);
        });
    }

    private static void removeLeft() {
        Due.test("3: answers how many are left: from 39 of forty to 0, the last first", () -> {
            Run run = Run.withForty();
            for (int number = 39; number >= 0; number--) {
                run.remove(number).is(number);
                run.count().is(number);
            }
        });
        Due.test("3: answers how many are left: from 39 of forty to 0, the first first", () -> {
            Run run = Run.withForty();
            for (int number = 0; number < 40; number++) {
                run.remove(number).is(39 - number);
                run.firstIn(0, 4095).is(number == 39 ? Run.NO_POINT : number + 1);
            }
        });
        Due.test("3: Takes a point away: the one point, and it alone", () -> {
            Run one = Run.withPoints(4095);
            one.remove(0).is(0);
            one.placeOf(0).is(Run.NO_POINT);
            one.labelOf(0).is(0);
            one.countBox(0, 4095).is(0);
            one.sumBox(0, 4095).is(0);
            one.nearest(4095, 0).is(Run.NO_POINT);

            Run three = Run.withPoints(5, 5, 5);
            three.remove(1).is(2);
            three.placeOf(0).is(5);
            three.placeOf(1).is(Run.NO_POINT);
            three.placeOf(2).is(5);
            three.sumBox(5, 5).is(100 + 102);
        });
    }

    private static void moveRefused() {
        Due.test("4: there is no such point: NO_POINT; nothing changes then", () -> {
            for (int size : new int[] {0, 1, 40}) {
                for (int bad : Run.notNumbers()) {
                    Run.withSome(size).unchangedBy(same -> same.move(bad, 0)).is(Run.NO_POINT);
                    Run.withSome(size).unchangedBy(same -> same.move(bad, 4095)).is(Run.NO_POINT);
                }
            }
        });
        Due.test("4: there is no such point: NO_POINT: a number that no point has", () -> {
            for (int number : new int[] {1, 3, 39}) {
                Run run = Run.withSome(3);
                run.remove(1).is(2);
                run.unchangedBy(same -> same.move(number, 7)).is(Run.NO_POINT);
                run.countBox(7, 7).is(0);
            }
        });
        Due.test("4: place not in 0 to 4095: BAD_PLACE; nothing changes then", () -> {
            for (int size : new int[] {1, 40}) {
                for (int bad : Run.notPlaces()) {
                    Run.withSome(size).unchangedBy(same -> same.move(0, bad)).is(Run.BAD_PLACE);
                    Run.withSome(size).unchangedBy(same -> same.move(size - 1, bad)).is(Run.BAD_PLACE);
                }
            }
        });
        Due.test("4: Tests in this order: NO_POINT ahead of BAD_PLACE", () -> {
            for (int bad : Run.notPlaces()) {
                for (int number : new int[] {0, 2, 39, 40, -1, Run.MIN, Run.MAX}) {
                    Run run = Run.withSome(2);
                    run.remove(0).is(1);
                    run.unchangedBy(same -> same.move(number, bad)).is(Run.NO_POINT);
                }
                new Run().move(0, bad).is(Run.NO_POINT);
            }
        });
    }

    private static void moveOldPlace() {
        Due.test("4: answers its old place: the last that are allowed", () -> {
            Run run = Run.withPoints(2000);
            run.move(0, 0).is(2000);
            run.placeOf(0).is(0);
            run.move(0, 4095).is(0);
            run.placeOf(0).is(4095);
            run.move(0, 0).is(4095);
        });
        Due.test("4: answers its old place: to where it stands", () -> {
            for (int place : new int[] {0, 4, 70, 4095}) {
                Run.withPoints(4, place, 4).unchangedBy(same -> same.move(1, place)).is(place);
            }
        });
        Due.test("4: answers its old place: not the refused one before", () -> {
            Run run = Run.withPoints(33);
            run.move(0, 4096).is(Run.BAD_PLACE);
            run.move(0, 34).is(33);
            run.move(0, -1).is(Run.BAD_PLACE);
            run.move(0, 35).is(34);
        });
        Due.test("4: Moves a point: the first and the last of forty, and no other", () -> {
            Run run = Run.withForty();
            run.move(0, 4095).is(0);
            run.move(39, 1).is(3900);
            run.placeOf(0).is(4095);
            run.placeOf(39).is(1);
            for (int number = 1; number < 39; number++) {
                run.placeOf(number).is(100 * number);
            }
            run.labelOf(0).is(100);
            run.labelOf(39).is(139);
            run.count().is(40);
            run.countBox(0, 0).is(0);
            run.countBox(4095, 4095).is(1);
        });
    }

    private static void clearBoxRefused() {
        Due.test("5: a not in 0 to 4095: BAD_PLACE, nothing changes", () -> {
            for (int size : new int[] {0, 1, 40}) {
                for (int bad : Run.notPlaces()) {
                    Run.withSome(size).unchangedBy(same -> same.clearBox(bad, 0)).is(Run.BAD_PLACE);
                    Run.withSome(size).unchangedBy(same -> same.clearBox(bad, 4095)).is(Run.BAD_PLACE);
                }
            }
        });
        Due.test("5: b not in 0 to 4095: BAD_PLACE, nothing changes", () -> {
            for (int size : new int[] {0, 1, 40}) {
                for (int bad : Run.notPlaces()) {
                    Run.withSome(size).unchangedBy(same -> same.clearBox(0, bad)).is(Run.BAD_PLACE);
                    Run.withSome(size).unchangedBy(same -> same.clearBox(4095, bad)).is(Run.BAD_PLACE);
                }
            }
        });
        Due.test("5: a and b not in 0 to 4095: BAD_PLACE, nothing changes", () -> {
            for (int bad : Run.notPlaces()) {
                Run.withForty().unchangedBy(same -> same.clearBox(bad, bad)).is(Run.BAD_PLACE);
                Run.withForty().unchangedBy(same -> same.clearBox(-1, bad)).is(Run.BAD_PLACE);
                Run.withForty().unchangedBy(same -> same.clearBox(bad, 4096)).is(Run.BAD_PLACE);
            }
        });
        Due.test("5: a or b not in 0 to 4095: BAD_PLACE: the last that are allowed", () -> {
            Run.withPoints(0, 4095).clearBox(0, 4095).is(2);
            Run.withPoints(0, 4095).clearBox(4095, 0).is(2);
            Run.withPoints(0, 4095).clearBox(0, 0).is(1);
            Run.withPoints(0, 4095).clearBox(4095, 4095).is(1);
        });
    }

    private static void clearBoxHowMany() {
        Due.test("5: answers how many: none of none, of one and of forty", () -> {
            new Run().clearBox(0, 4095).is(0);
            Run.withPoints(10).unchangedBy(same -> same.clearBox(11, 4095)).is(0);
            Run.withForty().unchangedBy(same -> same.clearBox(1, 1)).is(0);
        });
        Due.test("5: answers how many: one, all but one, and forty", () -> {
            Run one = Run.withForty();
            one.clearBox(3900, 3900).is(1);
            one.count().is(39);
            one.placeOf(39).is(Run.NO_POINT);
            one.clearBox(0, 0).is(1);
            one.count().is(38);
            one.clearBox(0, 0).is(0);

            Run most = Run.withManyAt(77, 40);
            most.move(20, 78).is(77);
            most.clearBox(77, 77).is(39);
            most.count().is(1);
            most.placeOf(20).is(78);
            most.labelOf(20).is(120);

            Run all = Run.withForty();
            all.clearBox(0, 4095).is(40);
            all.count().is(0);
            all.clearBox(0, 4095).is(0);
            all.add(0, 0).is(0);
        });
        Due.test("5: Takes all points in a box away: what is gone is gone for each call", () -> {
            Run run = Run.withPoints(5, 6, 5);
            run.clearBox(5, 5).is(2);
            run.remove(0).is(Run.NO_POINT);
            run.move(2, 9).is(Run.NO_POINT);
            run.placeOf(0).is(Run.NO_POINT);
            run.labelOf(2).is(0);
            run.countBox(0, 4095).is(1);
            run.sumBox(0, 4095).is(101);
            run.countNear(5, 0).is(0);
            run.nearest(5, 0).is(1);
            run.nearest(5, 1).is(Run.NO_POINT);
            run.firstIn(0, 4095).is(1);
            run.closest().is(Run.NO_POINT);
            run.count().is(1);
        });
    }
}
