/** The document's sentences on ways (promises 8 to 10) at their boundaries. */
public final class EdgesOfWaysTest {
    private static final int UNKNOWN = BreathSquare.UNKNOWN;
    private static final int OUTSIDE = BreathSquare.OUTSIDE;
    private static final int NONE = BreathSquare.NONE;
    private static final int MIN = Integer.MIN_VALUE;
    private static final int MAX = Integer.MAX_VALUE;

    public static void main(String[] args) {
        besideOneAnother();
        noMoreThanAStep();
        theLeastAndTheMostStep();
        theFirstOfSeveral();
        behindSomeSteps();
        noWay();
        toItself();
        theLongestWay();
        allOfSomeMonths();
        aWayOfAllMonthsAtOnce();
        noEarlier();
        leastStep();
        Check.end("EdgesOfWaysTest");
    }

    /** "STONES are BESIDE one another in a row, one below the other." */
    private static void besideOneAnother() {
        BreathSquare x = Check.laid("q33;s9s9s1;s1s9s9;s9s9s1");
        Check.same("the end of a row, the next one's start", x.way(2, 3, 0, 79, -1), NONE);
        Check.same("and back", x.way(3, 2, 0, 79, -1), NONE);
        Check.same("by a corner", Check.laid("q22;s1s9;s9s1").way(0, 3, 0, 79, -1), NONE);
        Check.same("the first column, the last one", x.way(3, 5, 0, 79, -1), NONE);
        Check.same("the first row, the last one", x.way(2, 8, 0, 79, -1), NONE);
        BreathSquare flat = Check.laid(Check.alike(3, 3, "s1"));
        int[][] steps = {{4, 1, 1}, {4, 3, 1}, {4, 5, 1}, {4, 7, 1}, {4, 0, 2}, {4, 2, 2}, {4, 6, 2}, {4, 8, 2},
            {2, 3, 3}, {3, 2, 3}, {5, 6, 3}, {0, 2, 2}, {0, 6, 2}, {0, 8, 4}};
        for (int[] s : steps) {
            Check.same("from " + s[0] + " to " + s[1], flat.way(s[0], s[1], 11, 0, -1), s[2]);
            Check.same("held from " + s[0] + " to " + s[1], flat.holds(s[0], s[1], 0, 11, 0), s[2]);
        }
    }

    /** "HEIGHTS of which are no more than a STEP ... apart" */
    private static void noMoreThanAStep() {
        BreathSquare x = Check.laid("q22;s1s9;s1s9");
        x.lift(2, 5);
        Check.same("up, just a step", x.way(0, 2, 0, 5, -1), 1);
        Check.same("up, one more", x.way(0, 2, 0, 4, -1), NONE);
        Check.same("down, just a step", x.way(2, 0, 0, 5, -1), 1);
        Check.same("down, one more", x.way(2, 0, 0, 4, -1), NONE);
        Check.same("held, just a step", x.holds(0, 2, 0, 0, 5), 1);
        Check.same("held, one more", x.holds(0, 2, 0, 0, 4), NONE);
        x.lift(2, 0);
        Check.same("like heights, step 0", x.way(0, 2, 0, 0, -1), 1);
        BreathSquare y = Check.laid("q24;s1s1s2s4;s1s9s9s9");
        int[] stones = {4, 0, 1, 2, 3};
        for (int q = 0; q < stones.length; q++) {
            Check.same("steps of 0, 0, 10, 20 by 20", y.way(4, 3, 0, 20, q), stones[q]);
        }
        Check.same("steps of 0, 0, 10, 20 by 19", y.way(4, 3, 0, 19, -1), NONE);
    }

    /** "a STEP (0 .. 999)" */
    private static void theLeastAndTheMostStep() {
        BreathSquare x = Check.laid("q22;s0f9;s9s9");
        x.lift(1, 99);
        x.month(11, 9, 9);
        Check.same("0", x.way(2, 3, 0, 0, -1), 1);
        Check.same("-1", x.way(2, 3, 0, -1, -1), OUTSIDE);
        Check.same("999", x.way(0, 1, 11, 999, -1), 1);
        Check.same("1000", x.way(0, 1, 11, 1000, -1), OUTSIDE);
        Check.same("far off", x.way(0, 1, 11, MIN, -1), OUTSIDE);
        Check.same("far off", x.way(0, 1, 11, MAX, -1), OUTSIDE);
        Check.same("held 0", x.holds(2, 3, 0, 11, 0), 1);
        Check.same("held -1", x.holds(2, 3, 0, 11, -1), OUTSIDE);
        Check.same("held 999", x.holds(0, 1, 0, 11, 999), 1);
        Check.same("held 1000", x.holds(0, 1, 0, 11, 1000), OUTSIDE);
        Check.same("the highest step there may be", x.way(0, 1, 11, 234, -1), 1);
        Check.same("one less goes around", x.way(0, 1, 11, 233, -1), 3);
    }

    /** "of the fewest such steps; of several the first as a row of STONES" */
    private static void theFirstOfSeveral() {
        BreathSquare x = Check.laid("q33;s1s1s1;s1s9s1;s1s1s1");
        row("around a high stone", x, 0, 8, 0, 1, 2, 5, 8);
        row("and back", x, 8, 0, 8, 5, 2, 1, 0);
        row("to the left and down", x, 2, 6, 2, 1, 0, 3, 6);
        row("up and to the right", x, 6, 2, 6, 3, 0, 1, 2);
        x.lift(1, 9);
        row("the first one is closed", x, 0, 8, 0, 3, 6, 7, 8);
        row("fewest goes ahead of first", Check.laid("q33;s1s1s1;s1s9s1;s1s1s1"), 3, 7, 3, 6, 7);
        BreathSquare fork = Check.laid("q34;s1s1s1s1;s1s1s9s1;s1s1s1s1");
        row("a first step that does not lead on", fork, 4, 11, 4, 5, 9, 10, 11);
        row("the first row of stones, not of directions", fork, 9, 3, 9, 5, 1, 2, 3);
    }

    /** All that way tells of a way by step 0 in month 0, whose stones are told. */
    private static void row(String what, BreathSquare x, int from, int to, int... stones) {
        Check.same(what + ": how many", x.way(from, to, 0, 0, -1), stones.length - 1);
        for (int q = 0; q < stones.length; q++) {
            Check.same(what + ": behind " + q, x.way(from, to, 0, 0, q), stones[q]);
        }
        Check.same(what + ": one more", x.way(from, to, 0, 0, stones.length), NONE);
    }

    /** "how many steps (q -1 ...), the STONE behind q of them (0 on); NONE: there are fewer"; "q below -1" */
    private static void behindSomeSteps() {
        BreathSquare x = Check.laid(Check.alike(2, 6, "s0"));
        Check.same("q -1", x.way(0, 5, 0, 0, -1), 5);
        Check.same("q 0: the first", x.way(0, 5, 0, 0, 0), 0);
        Check.same("q 1", x.way(0, 5, 0, 0, 1), 1);
        Check.same("q 5: the last", x.way(0, 5, 0, 0, 5), 5);
        Check.same("q 6: fewer", x.way(0, 5, 0, 0, 6), NONE);
        Check.same("q most", x.way(0, 5, 0, 0, MAX), NONE);
        Check.same("q -2", x.way(0, 5, 0, 0, -2), UNKNOWN);
        Check.same("q least", x.way(0, 5, 0, 0, MIN), UNKNOWN);
        Check.same("q -2 ahead of a wrong step", x.way(0, 5, 0, 1000, -2), UNKNOWN);
    }

    /** "NONE: there is none" */
    private static void noWay() {
        BreathSquare x = Check.laid("q22;s0s1;s0s1");
        for (int q : new int[] {-1, 0, 1, 2, MAX}) {
            Check.same("q " + q, x.way(0, 1, 0, 9, q), NONE);
        }
        Check.same("q -2", x.way(0, 1, 0, 9, -2), UNKNOWN);
        Check.same("held", x.holds(0, 1, 0, 11, 9), NONE);
        Check.same("by one more", x.way(0, 1, 0, 10, -1), 1);
    }

    /** From a stone to itself there are no steps to go; it stands alone in the row. */
    private static void toItself() {
        BreathSquare x = Check.laid("q56;s0s9s0s9s0s9;s9s0s9s0s9s0;s0s9s0s9s0s9;s9s0s9s0s9s0;s0s9s0s9s0s9");
        for (int c : new int[] {0, 14, 29}) {
            Check.same("how many", x.way(c, c, 0, 0, -1), 0);
            Check.same("behind 0", x.way(c, c, 0, 0, 0), c);
            Check.same("behind 1", x.way(c, c, 0, 0, 1), NONE);
            Check.same("held", x.holds(c, c, 0, 11, 0), 0);
            Check.same("least step", x.leastStep(c, c, 0), 0);
        }
    }

    /** A way of 19 steps through the largest square. */
    private static void theLongestWay() {
        BreathSquare x = Check.laid("q56;s1s1s1s1s1s1;s9s9s9s9s9s1;s1s1s1s1s1s1;s1s9s9s9s9s9;s1s1s1s1s1s1");
        row("there", x, 0, 29, 0, 1, 2, 3, 4, 5, 11, 17, 16, 15, 14, 13, 12, 18, 24, 25, 26, 27, 28, 29);
        row("back", x, 29, 0, 29, 28, 27, 26, 25, 24, 18, 12, 13, 14, 15, 16, 17, 11, 5, 4, 3, 2, 1, 0);
        Check.same("held", x.holds(0, 29, 0, 11, 0), 19);
        Check.same("least step", x.leastStep(0, 29, 0), 0);
        Check.same("straight", x.way(0, 29, 0, 80, -1), 9);
        Check.same("not straight", x.way(0, 29, 0, 79, -1), 19);
    }

    /** "in all of some MONTHS (from one on, to another one ...)": both ends are of them, no others are. */
    private static void allOfSomeMonths() {
        for (int wet = 0; wet < 12; wet++) {
            BreathSquare x = Check.laid("q22;s1c1;s9s9");
            x.month(wet, 1, 0);
            for (int first = 0; first < 12; first++) {
                for (int last = first; last < 12; last++) {
                    boolean isOneOf = first <= wet && wet <= last;
                    Check.same("wet in " + wet + ", from " + first + " to " + last,
                            x.holds(0, 1, first, last, 2), isOneOf ? NONE : 1);
                }
            }
            Check.same("a higher step", x.holds(0, 1, 0, 11, 3), 1);
        }
    }

    /** "all its steps are so in all of some MONTHS": not one way for this month and one for that. */
    private static void aWayOfAllMonthsAtOnce() {
        BreathSquare x = Check.laid("q22;s3c3;f2s3");
        x.month(1, 2, 2);
        Check.same("month 0: by the clay one", x.way(0, 3, 0, 0, 1), 1);
        Check.same("month 1: by the frosty one", x.way(0, 3, 1, 0, 1), 2);
        Check.same("month 0 alone", x.holds(0, 3, 0, 0, 0), 2);
        Check.same("month 1 alone", x.holds(0, 3, 1, 1, 0), 2);
        Check.same("both: none", x.holds(0, 3, 0, 1, 0), NONE);
        Check.same("both: none by 5", x.holds(0, 3, 0, 1, 5), NONE);
        Check.same("both: by 6", x.holds(0, 3, 0, 1, 6), 2);
    }

    /** "(from one on, to another one, no earlier)"; "till earlier than from one on: so, too" */
    private static void noEarlier() {
        BreathSquare x = Check.laid("q22;s1s1;s1s1");
        for (int first = 0; first < 12; first++) {
            Check.same("the same month", x.holds(0, 3, first, first, 0), 2);
            Check.same("one earlier", x.holds(0, 3, first, first - 1, 0), UNKNOWN);
        }
        Check.same("0 to 11", x.holds(0, 3, 0, 11, 0), 2);
        Check.same("11 to 0", x.holds(0, 3, 11, 0, 0), UNKNOWN);
        Check.same("0 to 12", x.holds(0, 3, 0, 12, 0), UNKNOWN);
        Check.same("-1 to 11", x.holds(0, 3, -1, 11, 0), UNKNOWN);
        Check.same("12 to 12", x.holds(0, 3, 12, 12, 0), UNKNOWN);
        Check.same("-1 to -1", x.holds(0, 3, -1, -1, 0), UNKNOWN);
        Check.same("earlier ahead of a wrong step", x.holds(0, 3, 1, 0, 1000), UNKNOWN);
    }

    /** "LEAST STEP: the least STEP by which there is a WAY in a MONTH." */
    private static void leastStep() {
        BreathSquare x = Check.laid("q22;s0f9;f9f9");
        for (int c = 1; c < 4; c++) {
            x.lift(c, 99);
        }
        x.month(0, 9, 9);
        Check.same("the highest there may be", x.leastStep(0, 3, 0), 234);
        Check.same("a way by it", x.way(0, 3, 0, 234, -1), 2);
        Check.same("none by one less", x.way(0, 3, 0, 233, -1), NONE);
        Check.same("in a dry month", x.leastStep(0, 3, 11), 189);
        Check.same("level", x.leastStep(1, 2, 0), 0);
        x.lift(2, 98);
        Check.same("one lower", x.leastStep(0, 3, 0), 233);
        Check.same("and back", x.leastStep(3, 0, 0), 233);
        Check.same("a longer way of smaller steps",
                Check.laid("q26;s0s9s9s9s9s4;s1s2s3s4s5s5").leastStep(0, 5, 0), 10);
        Check.same("stone 4", x.leastStep(4, 0, 0), UNKNOWN);
        Check.same("to stone 4", x.leastStep(0, 4, 0), UNKNOWN);
        Check.same("month 12", x.leastStep(0, 0, 12), UNKNOWN);
        Check.same("month -1", x.leastStep(0, 0, -1), UNKNOWN);
    }
}
