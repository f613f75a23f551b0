/** Promises 8 to 10: way, holds, leastStep. */
public final class WaysTest {
    public static void main(String[] args) {
        firstOfSeveral();
        aroundAWall();
        toItself();
        refusalsOfWay();
        holds();
        refusalsOfHolds();
        leastStep();
        Check.end("WaysTest");
    }

    private static void firstOfSeveral() {
        BreathSquare x = Check.laid("q33;s1s1s1;s1s1s1;s1s1s1");
        row("corner to corner", x, 0, 8, 0, 0, 1, 2, 5, 8);
        row("back", x, 8, 0, 0, 8, 5, 2, 1, 0);
        row("up and right", x, 6, 2, 0, 6, 3, 0, 1, 2);
        row("down and left", x, 2, 6, 0, 2, 1, 0, 3, 6);
        row("one step", x, 4, 5, 0, 4, 5);
        BreathSquare largest = Check.laid("q56" + ";s1s1s1s1s1s1".repeat(5));
        row("largest square", largest, 0, 29, 0, 0, 1, 2, 3, 4, 5, 11, 17, 23, 29);
        Check.same("largest square: least step", largest.leastStep(29, 0, 0), 0);
    }

    /** All that way tells of a way, whose stones are told. */
    private static void row(String what, BreathSquare x, int from, int to, int step, int... stones) {
        Check.same(what + ": how many", x.way(from, to, 0, step, -1), stones.length - 1);
        for (int q = 0; q < stones.length; q++) {
            Check.same(what + ": behind " + q, x.way(from, to, 0, step, q), stones[q]);
        }
        Check.same(what + ": fewer", x.way(from, to, 0, step, stones.length), BreathSquare.NONE);
        Check.same(what + ": far fewer", x.way(from, to, 0, step, Integer.MAX_VALUE), BreathSquare.NONE);
        Check.same(what + ": held", x.holds(from, to, 0, 0, step), stones.length - 1);
    }

    private static void aroundAWall() {
        BreathSquare x = Check.laid("q34;s1s9s1s1;s1s9s1s9;s1s1s1s2");
        row("around", x, 0, 2, 10, 0, 4, 8, 9, 10, 6, 2);
        row("just the step", x, 0, 11, 10, 0, 4, 8, 9, 10, 11);
        Check.same("one less", x.way(0, 11, 0, 9, -1), BreathSquare.NONE);
        Check.same("one less, behind 0", x.way(0, 11, 0, 9, 0), BreathSquare.NONE);
        row("over", x, 0, 2, 80, 0, 1, 2);
        Check.same("not over", x.way(0, 2, 0, 79, -1), 6);
        Check.same("down is a step, too", x.way(1, 0, 0, 79, -1), BreathSquare.NONE);
        x.lift(8, 11);
        Check.same("lifted away", x.way(0, 2, 0, 10, -1), BreathSquare.NONE);
        Check.same("step 999", x.way(0, 2, 0, 999, -1), 2);
    }

    private static void toItself() {
        BreathSquare x = Check.laid("q22;s0s9;s9s0");
        row("to itself", x, 3, 3, 0, 3);
        Check.same("least step to itself", x.leastStep(3, 3, 0), 0);
    }

    private static void refusalsOfWay() {
        BreathSquare x = Check.laid("q22;s0s9;s9s0");
        Check.same("from -1", x.way(-1, 0, 0, -1, -1), BreathSquare.UNKNOWN);
        Check.same("from 4", x.way(4, 0, 0, 0, -1), BreathSquare.UNKNOWN);
        Check.same("to -1", x.way(0, -1, 0, 0, -1), BreathSquare.UNKNOWN);
        Check.same("to 4", x.way(0, 4, 0, 1000, -1), BreathSquare.UNKNOWN);
        Check.same("month -1", x.way(0, 1, -1, 0, -1), BreathSquare.UNKNOWN);
        Check.same("month 12", x.way(0, 1, 12, -1, -1), BreathSquare.UNKNOWN);
        Check.same("q -2", x.way(0, 1, 0, -1, -2), BreathSquare.UNKNOWN);
        Check.same("step -1", x.way(0, 1, 0, -1, -1), BreathSquare.OUTSIDE);
        Check.same("step 1000", x.way(0, 1, 0, 1000, 9), BreathSquare.OUTSIDE);
    }

    private static void holds() {
        BreathSquare x = Check.laid("q23;s1c1s1;s1s1s1");
        x.month(3, 2, 0);
        x.month(5, 0, 9);
        Check.same("before", x.holds(0, 2, 0, 2, 5), 2);
        Check.same("from the month on", x.holds(0, 2, 3, 9, 5), 4);
        Check.same("till the month", x.holds(0, 2, 0, 3, 5), 4);
        Check.same("over the month", x.holds(0, 2, 0, 11, 5), 4);
        Check.same("behind it", x.holds(0, 2, 4, 11, 5), 2);
        Check.same("just so", x.holds(0, 2, 0, 11, 6), 2);
        Check.same("to a clay one", x.holds(0, 1, 3, 3, 5), BreathSquare.NONE);
        BreathSquare y = Check.laid("q22;c1s2;s2f1");
        y.month(0, 3, 0);
        y.month(1, 0, 5);
        Check.same("a way in one month", y.way(0, 3, 0, 1, -1), 2);
        Check.same("a way in the other one", y.way(0, 3, 1, 10, -1), 2);
        Check.same("in both", y.holds(0, 3, 0, 1, 9), BreathSquare.NONE);
        Check.same("in both by a higher step", y.holds(0, 3, 0, 1, 10), 2);
        BreathSquare z = Check.laid("q22;s1c1;f1s1");
        z.month(0, 0, 5);
        z.month(1, 2, 0);
        z.lift(2, 3);
        Check.same("one way in month 0", z.way(0, 3, 0, 5, 1), 1);
        Check.same("no way in month 1", z.way(0, 3, 1, 5, -1), BreathSquare.NONE);
    }

    private static void refusalsOfHolds() {
        BreathSquare x = Check.laid("q22;s0s9;s9s0");
        Check.same("from -1", x.holds(-1, 0, 0, 0, -1), BreathSquare.UNKNOWN);
        Check.same("from 4", x.holds(4, 0, 0, 0, 0), BreathSquare.UNKNOWN);
        Check.same("to -1", x.holds(0, -1, 0, 0, 0), BreathSquare.UNKNOWN);
        Check.same("to 4", x.holds(0, 4, 0, 0, 0), BreathSquare.UNKNOWN);
        Check.same("first -1", x.holds(0, 1, -1, 0, 0), BreathSquare.UNKNOWN);
        Check.same("first 12", x.holds(0, 1, 12, 12, 0), BreathSquare.UNKNOWN);
        Check.same("last 12", x.holds(0, 1, 0, 12, 0), BreathSquare.UNKNOWN);
        Check.same("last -1", x.holds(0, 1, 0, -1, 0), BreathSquare.UNKNOWN);
        Check.same("earlier", x.holds(0, 0, 5, 4, -1), BreathSquare.UNKNOWN);
        Check.same("the same", x.holds(0, 0, 5, 5, 0), 0);
        Check.same("step -1", x.holds(0, 1, 0, 0, -1), BreathSquare.OUTSIDE);
        Check.same("step 1000", x.holds(0, 1, 0, 0, 1000), BreathSquare.OUTSIDE);
    }

    private static void leastStep() {
        BreathSquare x = Check.laid("q34;s1s9s1s1;s1s9s1s9;s1s1s1s2");
        Check.same("around", x.leastStep(0, 2, 0), 0);
        Check.same("around and up", x.leastStep(0, 11, 0), 10);
        Check.same("onto the wall", x.leastStep(0, 1, 0), 80);
        Check.same("off the wall", x.leastStep(1, 0, 0), 80);
        Check.same("along the wall", x.leastStep(1, 5, 0), 0);
        Check.same("by smaller steps", Check.laid("q22;s0s5;s3s6").leastStep(0, 3, 0), 30);
        BreathSquare y = Check.laid("q22;s0f0;s9s0");
        y.month(2, 9, 9);
        Check.same("by month", y.leastStep(0, 3, 2), 45);
        Check.same("by another month", y.leastStep(0, 3, 1), 0);
        Check.same("from 4", x.leastStep(12, 0, 0), BreathSquare.UNKNOWN);
        Check.same("from -1", x.leastStep(-1, 0, 0), BreathSquare.UNKNOWN);
        Check.same("to 12", x.leastStep(0, 12, 0), BreathSquare.UNKNOWN);
        Check.same("to -1", x.leastStep(0, -1, 0), BreathSquare.UNKNOWN);
        Check.same("month -1", x.leastStep(0, 1, -1), BreathSquare.UNKNOWN);
        Check.same("month 12", x.leastStep(0, 1, 12), BreathSquare.UNKNOWN);
    }
}
