import java.util.Arrays;
import java.util.function.Function;

/** A run of calls on one new object: each answer is told with its call, and 512 is the end. */
final class Run {
    static final int CALLS = 512;

    static final int MIN = Integer.MIN_VALUE;
    static final int MAX = Integer.MAX_VALUE;

    // Written out, so that a wrong constant of the class is not its own measure.
    static final int BAD_PLACE = -1;
    static final int FULL = -2;
    static final int NO_POINT = -3;
    static final int BAD_RANK = -4;

    private static final int[] NOT_PLACES = {
        -1, 4096, MIN, MAX, -2, 4097, -64, -4095, -4096, 4159, 8191, 8192, 65535, 65536, -65536, 1 << 30};
    private static final int[] NOT_NUMBERS = {
        -1, 40, MIN, MAX, -2, 41, -39, -40, 63, 64, 255, 256, -256, 65536, 1 << 30};

    private final CellIndex index = new CellIndex();
    private int calls = 0;

    record Answer(String call, int got) {
        void is(int want) {
            Due.is(call, got, want);
        }
    }

    static int at(int x, int y) {
        return x + 64 * y;
    }

    /** The first that is too small and the first that is too large come first. */
    static int[] notPlaces() {
        return NOT_PLACES.clone();
    }

    static int[] notNumbers() {
        return NOT_NUMBERS.clone();
    }

    /** Points 0, 1, .. at these places, with the labels 100, 101, .. */
    static Run withPoints(int... places) {
        Run run = new Run();
        for (int i = 0; i < places.length; i++) {
            run.add(places[i], 100 + i).is(i);
        }
        return run;
    }

    /** Point i at place 100 * i, with the label 100 + i: no two at the same place. */
    static Run withForty() {
        return withSome(40);
    }

    static Run withSome(int size) {
        int[] places = new int[size];
        for (int i = 0; i < size; i++) {
            places[i] = 100 * i;
        }
        return withPoints(places);
    }

    static Run withManyAt(int place, int size) {
        int[] places = new int[size];
        Arrays.fill(places, place);
        return withPoints(places);
    }

    Answer add(int place, int label) {
        return answer(index.add(place, label), "add", place, label);
    }

    Answer remove(int point) {
        return answer(index.remove(point), "remove", point);
    }

    Answer move(int point, int place) {
        return answer(index.move(point, place), "move", point, place);
    }

    Answer clearBox(int a, int b) {
        return answer(index.clearBox(a, b), "clearBox", a, b);
    }

    Answer countBox(int a, int b) {
        return answer(index.countBox(a, b), "countBox", a, b);
    }

    Answer sumBox(int a, int b) {
        return answer(index.sumBox(a, b), "sumBox", a, b);
    }

    Answer countNear(int place, int distance) {
        return answer(index.countNear(place, distance), "countNear", place, distance);
    }

    Answer nearest(int place, int rank) {
        return answer(index.nearest(place, rank), "nearest", place, rank);
    }

    Answer firstIn(int a, int b) {
        return answer(index.firstIn(a, b), "firstIn", a, b);
    }

    Answer placeOf(int point) {
        return answer(index.placeOf(point), "placeOf", point);
    }

    Answer labelOf(int point) {
        return answer(index.labelOf(point), "labelOf", point);
    }

    Answer closest() {
        return answer(index.closest(), "closest");
    }

    Answer count() {
        return answer(index.count(), "count");
    }

    private Answer answer(int got, String name, int... arguments) {
        calls++;
        String call = name + Arrays.toString(arguments).replace('[', '(').replace(']', ')');
        if (calls > CALLS) {
            Due.same("the number of calls, at " + call, calls, "512 at most");
        }
        return new Answer("call " + calls + ", " + call + ",", got);
    }

    int callsLeft() {
        return CALLS - calls;
    }

    /** One call, as two could undo each other; with both looks at the state 253 of the 512. */
    Answer unchangedBy(Function<Run, Answer> call) {
        String before = state();
        Answer answer = call.apply(this);
        Due.same("the state after " + answer.call() + " which changes nothing,", state(), before);
        return answer;
    }

    /** All that can be asked of the points, in 126 calls. */
    private String state() {
        int[] seen = new int[126];
        for (int point = 0; point < 40; point++) {
            seen[point] = placeOf(point).got();
            seen[40 + point] = labelOf(point).got();
            seen[80 + point] = nearest(0, point).got();
        }
        seen[120] = count().got();
        seen[121] = countBox(0, 4095).got();
        seen[122] = sumBox(0, 4095).got();
        seen[123] = firstIn(0, 4095).got();
        seen[124] = countNear(0, MAX).got();
        seen[125] = closest().got();
        return Arrays.toString(seen);
    }
}
