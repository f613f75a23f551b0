/** The document's sentences on nights, readings and kinds (promises 19 to 22) at their boundaries. */
public final class EdgesOfMasonTest {
    private static final int UNKNOWN = BreathSquare.UNKNOWN;
    private static final int OUTSIDE = BreathSquare.OUTSIDE;
    private static final int STATE = BreathSquare.STATE;
    private static final int FULL = BreathSquare.FULL;
    private static final int NONE = BreathSquare.NONE;
    private static final int MIN = Integer.MIN_VALUE;
    private static final int MAX = Integer.MAX_VALUE;

    public static void main(String[] args) {
        noMoreThanTold();
        oneToNine();
        allIfThereAreFewer();
        theLowestOfEachNight();
        moreThan99();
        notIn500();
        onlyTold();
        refusalsOfNights();
        tenReadings();
        aTextLeavesNone();
        heightsRead();
        takenBack();
        kindsBySets();
        kindsAtTheEnds();
        Check.end("EdgesOfMasonTest");
    }

    /** "the fewest, till the highest STONE is no more than a told number above the lowest" */
    private static void noMoreThanTold() {
        BreathSquare x = Check.laid("q22;s0s1;s1s1");
        Check.same("at once", x.nights(0, 1, 10), 0);
        Check.same("one night", x.nights(0, 1, 9), 1);
        Check.same("nine nights", x.nights(0, 1, 1), 9);
        Check.same("till all are alike", x.nights(0, 1, 0), 10);
        Check.same("all alike at once", Check.laid("q22;s9s9;s9s9").nights(0, 9, 0), 0);
        Check.same("999", x.nights(0, 1, 999), 0);
        Check.same("-1", x.nights(0, 1, -1), OUTSIDE);
        Check.same("1000", x.nights(0, 1, 1000), OUTSIDE);
    }

    /** "the k (1 .. 9) lowest STONES" */
    private static void oneToNine() {
        BreathSquare x = Check.laid("q34;s0s0s0s0;s0s0s0s0;s0s1s1s1");
        Check.same("1", x.nights(0, 1, 0), 90);
        Check.same("2", x.nights(0, 2, 0), 45);
        Check.same("3", x.nights(0, 3, 0), 30);
        Check.same("8", x.nights(0, 8, 9), 2);
        Check.same("9", x.nights(0, 9, 0), 10);
        Check.same("0", x.nights(0, 0, 0), OUTSIDE);
        Check.same("10", x.nights(0, 10, 0), OUTSIDE);
        Check.same("far off", x.nights(0, MIN, 0), OUTSIDE);
        Check.same("far off", x.nights(0, MAX, 0), OUTSIDE);
    }

    /** "all, if there are fewer": then the highest one rises, too, and nothing comes closer. */
    private static void allIfThereAreFewer() {
        BreathSquare four = Check.laid("q22;s0s0;s0s1");
        Check.same("3 of 4", four.nights(0, 3, 0), 10);
        for (int k = 4; k <= 9; k++) {
            Check.same(k + " of 4", four.nights(0, k, 9), NONE);
            Check.same(k + " of 4, at once", four.nights(0, k, 10), 0);
        }
        BreathSquare six = Check.laid("q23;s0s0s0;s0s0s1");
        Check.same("5 of 6", six.nights(0, 5, 0), 10);
        Check.same("6 of 6", six.nights(0, 6, 9), NONE);
        Check.same("9 of 6", six.nights(0, 9, 9), NONE);
        BreathSquare eight = Check.laid("q24;s0s0s0s0;s0s0s0s1");
        Check.same("7 of 8", eight.nights(0, 7, 0), 10);
        Check.same("8 of 8", eight.nights(0, 8, 9), NONE);
        Check.same("9 of 8", eight.nights(0, 9, 9), NONE);
        BreathSquare nine = Check.laid("q33;s0s0s0;s0s0s0;s0s0s1");
        Check.same("8 of 9", nine.nights(0, 8, 0), 10);
        Check.same("9 of 9", nine.nights(0, 9, 9), NONE);
        BreathSquare ten = Check.laid("q52;s0s0;s0s0;s0s0;s0s0;s0s1");
        Check.same("9 of 10", ten.nights(0, 9, 0), 10);
        BreathSquare thirty = Check.laid("q56;s0s0s0s0s0s0;s0s0s0s1s1s1" + ";s1s1s1s1s1s1".repeat(3));
        Check.same("9 of 30", thirty.nights(0, 9, 0), 10);
    }

    /** The lowest are looked for anew each night; of like ones any makes the same heights. */
    private static void theLowestOfEachNight() {
        BreathSquare x = Check.laid("q22;s0s0;s5s5");
        x.lift(1, 1);
        Check.same("0, 1: the lower one, then one of both", x.nights(0, 1, 48), 3);
        Check.same("0, 1: by one night", x.nights(0, 1, 49), 1);
        BreathSquare y = Check.laid("q22;s0s0;s0s1");
        y.lift(0, 9);
        Check.same("two of 0, 0, 9, 10", y.nights(0, 2, 1), 9);
        Check.same("two of 9, 9, 9, 10", y.nights(0, 2, 0), NONE);
        BreathSquare z = Check.laid("q22;s0s0;s0s0");
        z.lift(0, 1);
        Check.same("three of 0, 0, 0, 1", z.nights(0, 3, 0), 1);
        // 0 0 0 1, then 1 1 0 1, then 2 1 1 1, which is as it was at first, but 1 higher.
        Check.same("two of 0, 0, 0, 1", z.nights(0, 2, 0), NONE);
    }

    /** "are LIFTED by 1 each (more than 99, too)" */
    private static void moreThan99() {
        BreathSquare x = Check.laid("q22;s0f9;f9f9");
        x.month(0, 9, 9);
        for (int c = 0; c < 4; c++) {
            x.lift(c, 99);
        }
        Check.same("99 to 234", x.nights(0, 1, 0), 135);
        Check.same("99 to 233", x.nights(0, 1, 1), 134);
        Check.same("99 to 99", x.nights(0, 1, 135), 0);
        Check.same("99 to 100", x.nights(0, 1, 134), 1);
    }

    /** "NONE: not in 500" */
    private static void notIn500() {
        BreathSquare x = Check.laid("q23;s0s0s0;s0s0s9");
        x.lift(5, 10);
        Check.same("5 by 100: 500", x.nights(0, 1, 0), 500);
        Check.same("5 by 99: 495", x.nights(0, 1, 1), 495);
        x.lift(5, 9);
        x.lift(0, 9);
        Check.same("495 - 9", x.nights(0, 1, 0), 486);
        x.lift(0, 0);
        x.lift(5, 11);
        Check.same("505", x.nights(0, 1, 0), NONE);
        for (int lifted = 3; lifted <= 6; lifted++) {
            x.lift(0, lifted);
            Check.same("505 - " + lifted, x.nights(0, 1, 0), lifted < 5 ? NONE : 505 - lifted);
        }
    }

    /** "(It is only told.)" */
    private static void onlyTold() {
        BreathSquare x = Check.laid("q22;s0c1;f1s1");
        BreathSquare y = Check.laid("q22;s0c1;f1s1");
        Check.same("nights", x.nights(0, 1, 0), 10);
        Check.same("once more", x.nights(0, 1, 0), 10);
        Check.same("no night at all", x.nights(0, 9, 0), NONE);
        Check.same("nights", State.of(x), State.of(y));
    }

    private static void refusalsOfNights() {
        BreathSquare x = Check.laid("q22;s0c1;f1s1");
        x.month(11, 1, 1);
        Check.same("month 11", x.nights(11, 1, 14), 1);
        Check.same("month 0", x.nights(0, 1, 10), 0);
        Check.same("month 12", x.nights(12, 1, 0), UNKNOWN);
        Check.same("month -1", x.nights(-1, 1, 0), UNKNOWN);
        Check.same("month 12, k 0", x.nights(12, 0, -1), UNKNOWN);
        BreathSquare none = new BreathSquare();
        Check.same("no square", none.nights(0, 1, 0), STATE);
        Check.same("no square, k 0", none.nights(0, 0, 0), OUTSIDE);
        Check.same("no square, month 12", none.nights(12, 1, 0), UNKNOWN);
    }

    /** "READINGS, 10 at most, numbered as they come" */
    private static void tenReadings() {
        BreathSquare x = Check.laid("q22;s0c1;f1s1");
        for (int k = 0; k < 10; k++) {
            Check.same("how many ahead", x.many(2), k);
            Check.same("number", x.reading(3, 11, k), k);
        }
        Check.same("the eleventh", x.reading(3, 11, 10), FULL);
        Check.same("the twelfth", x.reading(0, 0, 0), FULL);
        Check.same("how many", x.many(2), 10);
        Check.same("one taken back", x.back(1), 9);
        Check.same("room for one", x.reading(3, 11, 10), 9);
        Check.same("full again", x.reading(3, 11, 10), FULL);
        Check.same("all taken back", x.back(10), 0);
        Check.same("the first", x.reading(3, 11, 10), 0);
    }

    /** "(a TEXT leaves none)" */
    private static void aTextLeavesNone() {
        BreathSquare x = Check.laid("q22;s0c1;f1s1");
        for (int k = 0; k < 10; k++) {
            x.reading(0, 0, 999);
        }
        Check.same("no kind", x.kinds(0), 0);
        Check.same("a text that is not taken", x.square(0, 0, 0, 12), -112);
        Check.same("leaves all", x.many(2), 10);
        Check.same("full", x.reading(0, 0, 999), FULL);
        Check.same("a text", x.square(0, 0, 0, 13), 4);
        Check.same("leaves none", x.many(2), 0);
        Check.same("all kinds", x.kinds(0), 7);
        for (int k = 0; k < 10; k++) {
            Check.same("ten more", x.reading(0, 0, 0), k);
        }
        Check.same("full again", x.reading(0, 0, 0), FULL);
    }

    /** "OUTSIDE: height (0 .. 999)" */
    private static void heightsRead() {
        BreathSquare x = Check.laid("q22;s0c1;f1s1");
        Check.same("0", x.reading(0, 0, 0), 0);
        Check.same("999", x.reading(0, 0, 999), 1);
        Check.same("-1", x.reading(0, 0, -1), OUTSIDE);
        Check.same("1000", x.reading(0, 0, 1000), OUTSIDE);
        Check.same("stone 3, month 11", x.reading(3, 11, 0), 2);
        Check.same("stone 4", x.reading(4, 11, 0), UNKNOWN);
        Check.same("stone -1", x.reading(-1, 11, 0), UNKNOWN);
        Check.same("month 12", x.reading(3, 12, 0), UNKNOWN);
        Check.same("month -1", x.reading(3, -1, 0), UNKNOWN);
        Check.same("how many", x.many(2), 3);
        Check.same("no square", new BreathSquare().reading(0, 0, 0), UNKNOWN);
    }

    /** "The last k READINGS (0 .. as many as there are) are taken back: how many are left." */
    private static void takenBack() {
        BreathSquare none = new BreathSquare();
        Check.same("no square: 0", none.back(0), 0);
        Check.same("no square: 1", none.back(1), OUTSIDE);
        Check.same("no square: -1", none.back(-1), OUTSIDE);
        BreathSquare x = Check.laid("q22;s0c1;f1s1");
        Check.same("of none 0", x.back(0), 0);
        Check.same("of none 1", x.back(1), OUTSIDE);
        x.reading(0, 0, 0);
        x.reading(1, 0, 11);
        x.reading(2, 0, 11);
        Check.same("of 3 -1", x.back(-1), OUTSIDE);
        Check.same("of 3 4", x.back(4), OUTSIDE);
        Check.same("of 3 least", x.back(MIN), OUTSIDE);
        Check.same("of 3 most", x.back(MAX), OUTSIDE);
        Check.same("of 3 0", x.back(0), 3);
        Check.same("the last stays", x.kinds(2), 0);
        Check.same("of 3 1", x.back(1), 2);
        Check.same("the last is gone", x.kinds(2), 7);
        Check.same("the one before is not", x.kinds(1), 0);
        Check.same("of 2 3", x.back(3), OUTSIDE);
        Check.same("of 2 2", x.back(2), 0);
        Check.same("none left", x.kinds(1), 7);
    }

    /** "KINDS of a STONE by which all its READINGS are so ..., as a set": bit k for kind k. */
    private static void kindsBySets() {
        BreathSquare x = Check.laid("q22;s1c1;f1s1");
        x.month(0, 0, 0);
        x.month(1, 1, 0);
        x.month(2, 0, 1);
        x.month(3, 2, 3);
        int[][] monthHeightSet = {{0, 10, 7}, {0, 11, 0}, {0, 9, 0}, {1, 10, 1}, {1, 13, 6}, {1, 12, 0}, {1, 14, 0},
            {2, 10, 3}, {2, 12, 4}, {2, 11, 0}, {3, 10, 1}, {3, 16, 2}, {3, 22, 4}, {3, 15, 0}, {3, 23, 0}, {3, 0, 0},
            {3, 999, 0}};
        for (int[] due : monthHeightSet) {
            for (int c = 0; c < 4; c++) {
                Check.same("no reading", x.kinds(c), 7);
                x.reading(c, due[0], due[1]);
                Check.same("month " + due[0] + ", height " + due[1], x.kinds(c), due[2]);
                Check.same("another stone", x.kinds(3 - c), 7);
                x.back(1);
            }
        }
        x.reading(0, 1, 13);
        x.reading(0, 2, 10);
        Check.same("by both the clay one alone", x.kinds(0), 2);
        x.reading(0, 3, 16);
        Check.same("by all three", x.kinds(0), 2);
        x.reading(0, 0, 10);
        Check.same("by all four", x.kinds(0), 2);
        x.reading(0, 3, 22);
        Check.same("none by all five", x.kinds(0), 0);
    }

    /** "(GROUND, LIFTED as they are)": the highest and the lowest stone, the first and the last one. */
    private static void kindsAtTheEnds() {
        BreathSquare x = Check.laid("q56;f0s0s0s0s0s0" + ";s0s0s0s0s0s0".repeat(3) + ";s0s0s0s0s0s9");
        x.month(11, 9, 9);
        x.lift(29, 99);
        x.reading(29, 11, 234);
        Check.same("frosty at its highest", x.kinds(29), 4);
        x.lift(29, 98);
        Check.same("one lower", x.kinds(29), 0);
        x.lift(29, 99);
        x.month(11, 9, 8);
        Check.same("less frost", x.kinds(29), 0);
        x.back(1);
        x.reading(29, 11, 216);
        Check.same("clay at its highest", x.kinds(29), 2);
        x.reading(0, 0, 0);
        Check.same("all at their lowest", x.kinds(0), 7);
        Check.same("stone 30", x.kinds(30), UNKNOWN);
        Check.same("stone -1", x.kinds(-1), UNKNOWN);
    }
}
