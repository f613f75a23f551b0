import java.lang.reflect.Method;
import java.util.Arrays;
import java.util.List;

/**
 * Every call's line of refusals: each number at the last input that is taken and at the first that is
 * not, the order of refusals, and that they change nothing but fault(), of a call that names FAULTS.
 */
public final class RefusalsTest {
    private static final int MIN = Integer.MIN_VALUE;
    private static final int MAX = Integer.MAX_VALUE;
    private static final int UNKNOWN = BreathSquare.UNKNOWN;
    private static final int OUTSIDE = BreathSquare.OUTSIDE;
    private static final int STATE = BreathSquare.STATE;
    private static final int FULL = BreathSquare.FULL;

    /** What a number of a call may be, an ordinary one, and what the call answers to others. */
    private record Range(int least, int most, int usual, long refusal) {
        boolean takes(int v) {
            return v >= least && v <= most;
        }
    }

    private record Call(String name, boolean namesFaults, boolean needsSquare, Range... ranges) {
    }

    private static final Range STONE = new Range(0, 7, 0, UNKNOWN);
    private static final Range BESIDE = new Range(0, 7, 1, UNKNOWN);
    private static final Range PLACE = new Range(0, 2, 0, UNKNOWN);
    private static final Range MONTH = new Range(0, 11, 0, UNKNOWN);
    private static final Range LAST = new Range(0, 11, 11, UNKNOWN);
    private static final Range SHEET = new Range(0, 3, 0, UNKNOWN);
    private static final Range SORT = new Range(0, 2, 0, OUTSIDE);
    private static final Range APART = new Range(0, 999, 5, OUTSIDE);
    private static final Range DIGIT = new Range(0, 9, 4, OUTSIDE);
    private static final Range UP_TO_1 = new Range(0, 1, 0, OUTSIDE);
    private static final Range UP_TO_2 = new Range(0, 2, 0, OUTSIDE);
    private static final Range ANY = new Range(MIN, MAX, 0, 0);

    private static final List<Call> CALLS = List.of(
            new Call("square", true, false, SHEET, SORT, ANY, ANY),
            new Call("ofStone", false, false, STONE, UP_TO_2),
            new Call("month", false, true, MONTH, DIGIT, DIGIT),
            new Call("lift", false, false, STONE, new Range(0, 99, 7, OUTSIDE)),
            new Call("height", false, false, STONE, MONTH),
            new Call("rises", false, false, STONE, UP_TO_1),
            new Call("way", false, false, STONE, STONE, MONTH, APART, new Range(-1, MAX, -1, UNKNOWN)),
            new Call("holds", false, false, STONE, STONE, MONTH, LAST, APART),
            new Call("leastStep", false, false, STONE, STONE, MONTH),
            new Call("wedges", false, false, PLACE, MONTH),
            new Call("best", false, true, MONTH, UP_TO_1),
            new Call("two", false, true, MONTH, UP_TO_2),
            new Call("oval", false, true, MONTH, APART, UP_TO_2),
            new Call("depth", false, false, STONE, MONTH),
            new Call("pool", false, true, MONTH),
            new Call("drain", false, true, MONTH, new Range(1, 99, 5, OUTSIDE), UP_TO_1),
            new Call("statue", false, false, STONE, BESIDE, APART),
            new Call("nights", false, true, MONTH, new Range(1, 9, 2, OUTSIDE), APART),
            new Call("reading", false, false, STONE, MONTH, APART),
            new Call("back", false, false, new Range(0, 3, 0, OUTSIDE)),
            new Call("kinds", false, false, STONE),
            new Call("sheet", true, false, SHEET, SORT, new Range(MIN, 80, 3, OUTSIDE)),
            new Call("lose", false, false, SHEET),
            new Call("put", true, false, SHEET, ANY, ANY),
            new Call("cell", true, false, new Range(0, 3, 0, BreathSquare.LOST), ANY,
                    new Range(0, 2, 0, BreathSquare.LOST)),
            new Call("copy", true, false, SHEET, ANY, SHEET, ANY, ANY),
            new Call("tell", false, false, STONE),
            new Call("tread", false, false, STONE),
            new Call("as", true, false, STONE, UP_TO_2),
            new Call("many", false, false, UP_TO_2));

    private static final String PREPARED = State.of(prepared());

    public static void main(String[] args) throws ReflectiveOperationException {
        allCallsAreHere();
        for (Call call : CALLS) {
            for (int k = 0; k < call.ranges.length; k++) {
                eachNumberAlone(call, k);
                for (int other = 0; other < k; other++) {
                    twoWrongNumbers(call, k, other);
                }
            }
            withoutASquare(call);
        }
        withoutAnyStone();
        fullIsLast();
        statueBehindItsNumbers();
        refusedAheadOfFaults();
        Check.end("RefusalsTest");
    }

    /** A square of 8 stones, months, liftings, 3 readings, sheets of each sort, one with nothing; fault() is CAST. */
    private static BreathSquare prepared() {
        BreathSquare x = Check.laid("q24;s1c2f3s4;f5s6c7c8");
        x.month(0, 1, 2);
        x.month(11, 9, 8);
        x.lift(0, 99);
        x.lift(7, 3);
        x.reading(0, 0, 109);
        x.reading(1, 0, 23);
        x.reading(2, 11, 57);
        x.sheet(1, 1, 3);
        x.put(1, 2, 300);
        x.sheet(2, 2, 0);
        x.tell(2);
        Check.faulty("a fault ahead", x, x.as(0, 2), Check.CAST);
        return x;
    }

    private static void allCallsAreHere() {
        long shown = Arrays.stream(BreathSquare.class.getDeclaredMethods())
                .filter(m -> java.lang.reflect.Modifier.isPublic(m.getModifiers())).count();
        Check.same("calls that take numbers, and trace, fault", CALLS.size() + 2, shown);
    }

    private static long answer(BreathSquare x, Call call, int... numbers) throws ReflectiveOperationException {
        Class<?>[] ints = new Class<?>[numbers.length];
        Arrays.fill(ints, int.class);
        Method method = BreathSquare.class.getDeclaredMethod(call.name, ints);
        return ((Number) method.invoke(x, Arrays.stream(numbers).boxed().toArray())).longValue();
    }

    private static int[] usual(Call call) {
        return Arrays.stream(call.ranges).mapToInt(range -> range.usual).toArray();
    }

    private static int[] wrongFor(Range range) {
        int[] near = {range.least - 1, range.most + 1, MIN, MAX};
        return Arrays.stream(near).filter(v -> !range.takes(v)).distinct().toArray();
    }

    private static void eachNumberAlone(Call call, int k) throws ReflectiveOperationException {
        Range range = call.ranges[k];
        int[] numbers = usual(call);
        for (int wrong : wrongFor(range)) {
            numbers[k] = wrong;
            refused(call, range.refusal, numbers);
        }
        for (int right : new int[] {range.least, range.most}) {
            numbers[k] = right;
            BreathSquare x = prepared();
            long got = answer(x, call, numbers);
            // A cell is LOST by a fault, too; refused is what leaves no fault.
            boolean isRefused = got == range.refusal && !(call.name.equals("cell") && x.fault() != 0);
            Check.that(call.name + Arrays.toString(numbers) + " is taken", range == ANY || !isRefused);
        }
    }

    private static void refused(Call call, long due, int... numbers) throws ReflectiveOperationException {
        String what = call.name + Arrays.toString(numbers);
        BreathSquare x = prepared();
        Check.same(what, answer(x, call, numbers), due);
        Check.same(what + ": fault", x.fault(), call.namesFaults ? 0 : Check.CAST);
        Check.same(what, State.of(x), PREPARED);
    }

    /** UNKNOWN is told ahead of OUTSIDE, wherever the numbers stand. */
    private static void twoWrongNumbers(Call call, int k, int other) throws ReflectiveOperationException {
        for (int wrong : wrongFor(call.ranges[k])) {
            for (int wrongToo : wrongFor(call.ranges[other])) {
                int[] numbers = usual(call);
                numbers[k] = wrong;
                numbers[other] = wrongToo;
                refused(call, Math.max(call.ranges[k].refusal, call.ranges[other].refusal), numbers);
            }
        }
    }

    /** STATE: there is no SQUARE; behind UNKNOWN, OUTSIDE. */
    private static void withoutASquare(Call call) throws ReflectiveOperationException {
        if (!call.needsSquare) {
            return;
        }
        BreathSquare x = new BreathSquare();
        Check.same(call.name + " of no square", answer(x, call, usual(call)), STATE);
        for (int k = 0; k < call.ranges.length; k++) {
            int[] numbers = usual(call);
            for (int right : new int[] {call.ranges[k].least, call.ranges[k].most}) {
                numbers[k] = right;
                Check.same(call.name + " of no square, taken else", answer(x, call, numbers), STATE);
            }
            for (int wrong : wrongFor(call.ranges[k])) {
                numbers[k] = wrong;
                Check.same(call.name + " of no square, wrong", answer(x, call, numbers), call.ranges[k].refusal);
            }
        }
        Check.same(call.name + " of no square", State.of(x), State.of(new BreathSquare()));
    }

    /** Without a square there is not even a stone 0. */
    private static void withoutAnyStone() throws ReflectiveOperationException {
        for (Call call : CALLS) {
            if (call.ranges[0] == STONE || call.ranges[0] == PLACE) {
                BreathSquare x = new BreathSquare();
                Check.same(call.name + " of no stone", answer(x, call, usual(call)), UNKNOWN);
                int[] numbers = usual(call);
                for (int k = 1; k < numbers.length; k++) {
                    numbers[k] = MIN;
                }
                Check.same(call.name + " of no stone, all wrong", answer(x, call, numbers), UNKNOWN);
                Check.same(call.name + " of no stone", State.of(x), State.of(new BreathSquare()));
            }
        }
    }

    private static BreathSquare full() {
        BreathSquare x = prepared();
        for (int k = 3; k < 10; k++) {
            Check.same("till full", x.reading(k % 8, 5, k), k);
        }
        return x;
    }

    /** reading: UNKNOWN; OUTSIDE; FULL. */
    private static void fullIsLast() {
        int[][] wrong = {{0, 0, 0, FULL}, {7, 11, 999, FULL}, {8, 0, 0, UNKNOWN}, {-1, 0, 0, UNKNOWN},
            {0, 12, 0, UNKNOWN}, {0, -1, 0, UNKNOWN}, {0, 0, 1000, OUTSIDE}, {0, 0, -1, OUTSIDE}};
        for (int[] w : wrong) {
            BreathSquare x = full();
            Check.same("full: reading " + Arrays.toString(w), x.reading(w[0], w[1], w[2]), w[3]);
            Check.same("full: reading", State.of(x), State.of(full()));
        }
    }

    /** statue: UNKNOWN: STONES; OUTSIDE: apart; STATE: they are not BESIDE one another. */
    private static void statueBehindItsNumbers() {
        int[][] wrong = {{0, 0, 0, STATE}, {0, 2, 999, STATE}, {3, 4, 0, STATE}, {0, 5, 0, STATE},
            {0, 2, -1, OUTSIDE}, {0, 0, 1000, OUTSIDE}, {0, 8, 1000, UNKNOWN}, {-1, 0, -1, UNKNOWN}};
        for (int[] w : wrong) {
            BreathSquare x = prepared();
            Check.same("statue " + Arrays.toString(w), x.statue(w[0], w[1], w[2]), w[3]);
            Check.same("statue " + Arrays.toString(w), State.of(x), PREPARED);
        }
    }

    /** A call that is refused comes to no fault, whatever else is wrong with it. */
    private static void refusedAheadOfFaults() {
        BreathSquare x = prepared();
        Check.same("square: sheet", x.square(4, 0, -1, -1), UNKNOWN);
        Check.same("square: sort of nothing", x.square(3, 3, -1, -1), OUTSIDE);
        Check.same("square: sort of another one", x.square(1, -1, -1, -1), OUTSIDE);
        Check.same("sheet: number", x.sheet(-1, 0, -1), UNKNOWN);
        Check.same("sheet: sort", x.sheet(0, 3, -1), OUTSIDE);
        Check.same("put: number", x.put(4, -1, 0), UNKNOWN);
        Check.lost("cell: sort of nothing", x, x.cell(3, -1, 3), 0);
        Check.lost("cell: number", x, x.cell(4, -1, 1), 0);
        Check.same("copy: the other one, from nothing", x.copy(3, -1, 4, -1, -1), UNKNOWN);
        Check.same("copy: the first one, to nothing", x.copy(-1, -1, 3, -1, -1), UNKNOWN);
        Check.same("as: kind", x.as(0, 3), OUTSIDE);
        Check.same("none came to a fault", x.fault(), 0);
    }
}
