/** The document's sentences on water and statues (promises 15 to 18) at their boundaries. */
public final class EdgesOfWaterTest {
    private static final int UNKNOWN = BreathSquare.UNKNOWN;
    private static final int OUTSIDE = BreathSquare.OUTSIDE;
    private static final int STATE = BreathSquare.STATE;
    private static final int NONE = BreathSquare.NONE;

    public static void main(String[] args) {
        edgesAreDry();
        everyEdgeLetsOff();
        squaresWithoutInnerStones();
        justFull();
        notByACorner();
        overStonesToTheEdge();
        theDeepestPool();
        refusalsOfDepthAndPool();
        liftedBy1To99();
        moreThan99InAll();
        theLeastOfSeveral();
        nothingToDrain();
        drainIsOnlyTold();
        moreThanTold();
        theFirstMonth();
        besideOneAnother();
        refusalsOfStatue();
        Check.end("EdgesOfWaterTest");
    }

    /** "all STONES in the first, the last row, column: no higher than their HEIGHT" */
    private static void edgesAreDry() {
        for (int high = 2; high <= 5; high++) {
            for (int wide = 2; wide <= 6; wide++) {
                StringBuilder text = new StringBuilder("q").append(high).append(wide);
                for (int row = 0; row < high; row++) {
                    text.append(';');
                    for (int column = 0; column < wide; column++) {
                        boolean isInner = row > 0 && row < high - 1 && column > 0 && column < wide - 1;
                        text.append(isInner ? "s2" : "s5");
                    }
                }
                pond(text.toString(), high, wide);
            }
        }
    }

    /** Stones at the edge are 30 higher than the inner ones. */
    private static void pond(String text, int high, int wide) {
        BreathSquare x = Check.laid(text);
        for (int c = 0; c < high * wide; c++) {
            boolean isInner = c >= wide && c < (high - 1) * wide && c % wide > 0 && c % wide < wide - 1;
            Check.same("depth of " + c + " in " + text, x.depth(c, 0), isInner ? 30 : 0);
        }
        int inner = (high - 2) * (wide - 2);
        Check.same("pool of " + text, x.pool(0), 30 * inner);
    }

    /** "it runs off at the SQUARE's edge": by each stone of it, but the corners, which are BESIDE no inner one. */
    private static void everyEdgeLetsOff() {
        for (int low = 0; low < 30; low++) {
            boolean isInRow = low < 6 || low >= 24;
            boolean isInColumn = low % 6 == 0 || low % 6 == 5;
            if (isInRow || isInColumn) {
                BreathSquare x = Check.laid("q56;s8s8s8s8s8s8;s8s0s0s0s0s8;s8s0s0s0s0s8;s8s0s0s0s0s8;s8s8s8s8s8s8");
                for (int c = 0; c < 30; c++) {
                    boolean isInner = c / 6 > 0 && c / 6 < 4 && c % 6 > 0 && c % 6 < 5;
                    x.lift(c, isInner || c == low ? 0 : 15);
                }
                Check.same("the low one is dry: " + low, x.depth(low, 0), 0);
                int level = isInRow && isInColumn ? 95 : 80;
                Check.same("runs off by " + low, x.pool(0), 12 * level);
                Check.same("runs off by " + low + ": far inside", x.depth(14, 0), level);
            }
        }
        for (int low : new int[] {0, 1, 2, 3, 5, 6, 7, 8}) {
            BreathSquare x = Check.laid(Check.alike(3, 3, "s9"));
            for (int c = 0; c < 9; c++) {
                x.lift(c, c == low ? 0 : 99);
            }
            Check.same("a low one among high ones", x.depth(low, 0), 0);
            Check.same("a low one among high ones: pool", x.pool(0), 0);
        }
    }

    /** Two rows, two columns are all edge. */
    private static void squaresWithoutInnerStones() {
        Check.same("two rows", Check.laid("q26;s9s0s9s0s9s0;s9s9s9s9s9s9").pool(11), 0);
        Check.same("two columns", Check.laid("q52;s9s9;s9s0;s0s9;s9s0;s9s9").pool(11), 0);
        Check.same("three by three has one", Check.laid("q33;s9s9s9;s9s0s9;s9s9s9").pool(11), 90);
    }

    /** "how much higher that is than its HEIGHT (0 at least)" */
    private static void justFull() {
        BreathSquare x = Check.laid("q33;s9s9s9;s9s5s6;s9s9s9");
        int[][] liftedAndDepth = {{0, 10}, {9, 1}, {10, 0}, {11, 0}, {99, 0}};
        for (int[] l : liftedAndDepth) {
            x.lift(4, l[0]);
            Check.same("lifted by " + l[0], x.depth(4, 0), l[1]);
            Check.same("lifted by " + l[0] + ": pool", x.pool(0), l[1]);
        }
    }

    /** "over STONES BESIDE one another, to the edge" */
    private static void notByACorner() {
        BreathSquare x = Check.laid("q33;s0s9s0;s9s1s9;s0s9s0");
        Check.same("low corners", x.depth(4, 0), 80);
        BreathSquare askew = Check.laid("q44;s9s9s9s9;s9s1s9s9;s9s9s1s4;s9s9s9s9");
        Check.same("an inner one by a corner", askew.depth(5, 0), 80);
        Check.same("beside the edge", askew.depth(10, 0), 30);
        Check.same("both", askew.pool(0), 110);
        BreathSquare rows = Check.laid("q44;s9s9s9s9;s9s9s1s9;s0s9s9s9;s9s9s9s9");
        Check.same("not over the end of a row", rows.depth(6, 0), 80);
    }

    /** "as high as it must rise to run off": by the way with the lowest highest stone. */
    private static void overStonesToTheEdge() {
        BreathSquare x = Check.laid("q56;s9s9s9s9s9s9;s9s0s1s2s3s9;s9s9s9s9s4s9;s9s8s7s6s5s6;s9s9s9s9s9s9");
        int[][] due = {{7, 60}, {8, 50}, {9, 40}, {10, 30}, {16, 20}, {22, 10}, {21, 0}, {20, 0}, {19, 0}, {23, 0}};
        for (int[] d : due) {
            Check.same("depth of " + d[0], x.depth(d[0], 0), d[1]);
        }
        Check.same("pool", x.pool(0), 210);
        x.lift(16, 25);
        Check.same("a sill on the way", x.depth(7, 0), 65);
        Check.same("below the sill", x.depth(22, 0), 10);
        Check.same("the sill", x.depth(16, 0), 0);
        BreathSquare two = Check.laid("q35;s9s9s9s9s9;s7s0s0s0s6;s9s9s9s9s9");
        Check.same("the lower of two ways", two.pool(0), 180);
        two.lift(14 - 5, 11);
        Check.same("the other one is lower now", two.pool(0), 210);
    }

    private static void theDeepestPool() {
        BreathSquare x = Check.laid("q56;f9f9f9f9f9f9;f9s0s0s0s0f9;f9s0s0s0s0f9;f9s0s0s0s0f9;f9f9f9f9f9f9");
        x.month(11, 9, 9);
        for (int c = 0; c < 30; c++) {
            if (x.ofStone(c, 0) == 2) {
                x.lift(c, 99);
            }
        }
        Check.same("depth", x.depth(14, 11), 234);
        Check.same("pool", x.pool(11), 12 * 234);
        Check.same("pool in a dry month", x.pool(0), 12 * 189);
        Check.same("drain", x.drain(11, 99, 1), 12 * 234 - 99);
        Check.same("drain: the first inner stone", x.drain(11, 99, 0), 7);
    }

    private static void refusalsOfDepthAndPool() {
        BreathSquare x = Check.laid("q33;s9s9s9;s9s5s6;s9s9s9");
        Check.same("stone 8", x.depth(8, 0), 0);
        Check.same("stone 9", x.depth(9, 0), UNKNOWN);
        Check.same("stone -1", x.depth(-1, 0), UNKNOWN);
        Check.same("month 11", x.depth(4, 11), 10);
        Check.same("month 12", x.depth(4, 12), UNKNOWN);
        Check.same("month -1", x.depth(4, -1), UNKNOWN);
        Check.same("pool 0", x.pool(0), 10);
        Check.same("pool 11", x.pool(11), 10);
        Check.same("pool 12", x.pool(12), UNKNOWN);
        Check.same("pool -1", x.pool(-1), UNKNOWN);
        BreathSquare none = new BreathSquare();
        Check.same("no square: depth", none.depth(0, 0), UNKNOWN);
        Check.same("no square: pool", none.pool(0), STATE);
        Check.same("no square: pool 12", none.pool(12), UNKNOWN);
        Check.same("no square: drain", none.drain(0, 1, 0), STATE);
        Check.same("no square: by 0", none.drain(0, 0, 0), OUTSIDE);
    }

    private static void drain(String what, BreathSquare x, int by, int stone, int pool) {
        Check.same(what + ": stone", x.drain(0, by, 0), stone);
        Check.same(what + ": pool", x.drain(0, by, 1), pool);
    }

    /** "the LIFTING of which by a told number (1 .. 99 ...)" */
    private static void liftedBy1To99() {
        BreathSquare x = Check.laid("q33;s9s9s9;s9s0s9;s9s9s9");
        drain("by 1", x, 1, 4, 89);
        drain("by 89", x, 89, 4, 1);
        drain("by 90", x, 90, 4, 0);
        drain("by 99", x, 99, 4, 0);
        for (int by : new int[] {0, 100, -1, Integer.MIN_VALUE, Integer.MAX_VALUE}) {
            Check.same("by " + by, x.drain(0, by, 0), OUTSIDE);
        }
        Check.same("what 2", x.drain(0, 1, 2), OUTSIDE);
        Check.same("what -1", x.drain(0, 1, -1), OUTSIDE);
        Check.same("month 12", x.drain(12, 1, 0), UNKNOWN);
        Check.same("month -1", x.drain(-1, 1, 0), UNKNOWN);
    }

    /** "(... more than 99 in all, too)" */
    private static void moreThan99InAll() {
        BreathSquare x = Check.laid("q33;f9f9f9;f9s0f9;f9f9f9");
        x.month(0, 9, 9);
        for (int c = 0; c < 9; c++) {
            x.lift(c, 99);
        }
        Check.same("pool", x.pool(0), 135);
        drain("100 in all", x, 1, 4, 134);
        drain("198 in all", x, 99, 4, 36);
        x.lift(4, 1);
        drain("just 99 in all", x, 98, 4, 135);
        drain("one more", x, 99, 4, 134);
    }

    /** "the POOL is the least; of several the least" */
    private static void theLeastOfSeveral() {
        BreathSquare x = Check.laid("q34;s9s9s9s9;s9s1s1s9;s9s9s9s9");
        drain("two alike", x, 10, 5, 150);
        x.lift(5, 75);
        drain("the first is nearly full", x, 5, 5, 80);
        drain("the other one has more room", x, 6, 6, 79);
        BreathSquare sill = Check.laid("q34;s9s9s9s9;s9s1s5s2;s9s9s9s9");
        drain("lifting the sill makes it worse", sill, 10, 5, 30);
        BreathSquare edge = Check.laid("q33;s9s9s9;s9s1s5;s9s9s9");
        drain("lifting the edge makes it worse", edge, 50, 4, 0);
    }

    private static void nothingToDrain() {
        drain("no inner stone", Check.laid("q22;s0s9;s9s0"), 99, 0, 0);
        drain("a dry one", Check.laid("q33;s1s1s1;s1s1s1;s1s1s1"), 99, 0, 0);
        drain("stone 1 lets off", Check.laid("q33;s9s1s9;s9s1s9;s9s9s9"), 99, 0, 0);
        drain("one that lies lower makes no pool of stone 0", Check.laid("q33;s0s1s1;s0s0s1;s1s1s1"), 99, 0, 0);
    }

    private static void drainIsOnlyTold() {
        BreathSquare x = Check.laid("q33;s9s9s9;s9s0s9;s9s9s9");
        for (int what = 0; what < 2; what++) {
            x.drain(0, 99, what);
            Check.same("lifted", x.ofStone(4, 2), 0);
            Check.same("pool", x.pool(0), 90);
        }
    }

    /** "the first MONTH in which HEIGHTS are more than a told number apart; NONE" */
    private static void moreThanTold() {
        BreathSquare x = Check.laid("q22;s0f9;s0s0");
        x.lift(1, 99);
        x.month(11, 9, 9);
        Check.same("just so much", x.statue(0, 1, 234), NONE);
        Check.same("one less", x.statue(0, 1, 233), 11);
        Check.same("the other way", x.statue(1, 0, 233), 11);
        Check.same("the other way, just so much", x.statue(1, 0, 234), NONE);
        Check.same("as much as in all other months", x.statue(0, 1, 189), 11);
        Check.same("less than in any", x.statue(0, 1, 188), 0);
        Check.same("like ones by 0", x.statue(0, 2, 0), NONE);
        x.lift(2, 1);
        Check.same("by 1 apart, by 0", x.statue(0, 2, 0), 0);
        Check.same("by 1 apart, by 1", x.statue(0, 2, 1), NONE);
    }

    private static void theFirstMonth() {
        for (int wet = 0; wet < 12; wet++) {
            BreathSquare x = Check.laid("q22;s1c1;s1s1");
            for (int m = wet; m < 12; m++) {
                x.month(m, 1 + (m - wet) % 9, 0);
            }
            Check.same("from " + wet + " on", x.statue(0, 1, 2), wet);
            Check.same("from " + wet + " on, not by 3", x.statue(0, 1, 3), wet == 11 ? NONE : wet + 1);
        }
    }

    /** "STATE: they are not BESIDE one another" */
    private static void besideOneAnother() {
        BreathSquare x = Check.laid(Check.alike(3, 4, "s1"));
        for (int c = 0; c < 12; c++) {
            for (int other = 0; other < 12; other++) {
                boolean inARow = c / 4 == other / 4 && Math.abs(c - other) == 1;
                boolean below = Math.abs(c - other) == 4;
                Check.same("statue on " + c + ", " + other, x.statue(c, other, 0), inARow || below ? NONE : STATE);
            }
        }
    }

    private static void refusalsOfStatue() {
        BreathSquare x = Check.laid("q22;s1s1;s1s1");
        Check.same("apart 0", x.statue(2, 3, 0), NONE);
        Check.same("apart 999", x.statue(2, 3, 999), NONE);
        Check.same("apart -1", x.statue(2, 3, -1), OUTSIDE);
        Check.same("apart 1000", x.statue(2, 3, 1000), OUTSIDE);
        Check.same("other 4", x.statue(3, 4, 0), UNKNOWN);
        Check.same("other -1", x.statue(0, -1, 0), UNKNOWN);
        Check.same("stone 4", x.statue(4, 3, 0), UNKNOWN);
        Check.same("stone -1", x.statue(-1, 0, 0), UNKNOWN);
        Check.same("not beside, apart 1000", x.statue(0, 3, 1000), OUTSIDE);
        Check.same("not beside, apart 999", x.statue(0, 3, 999), STATE);
    }
}
