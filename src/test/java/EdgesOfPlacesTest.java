/** The document's sentences on stalls and ovals (promises 11 to 14) at their boundaries. */
public final class EdgesOfPlacesTest {
    private static final int UNKNOWN = BreathSquare.UNKNOWN;
    private static final int OUTSIDE = BreathSquare.OUTSIDE;
    private static final int STATE = BreathSquare.STATE;
    private static final int NONE = BreathSquare.NONE;

    public static void main(String[] args) {
        lastRowAndColumn();
        fewestAndMostWedges();
        theBestPlace();
        theOnlyPlace();
        roomForTwo();
        noStoneInCommon();
        theFirstPairOfSeveral();
        fewestTogether();
        ovalNoMoreThanTold();
        ovalOfOneStone();
        ovalOfAllStones();
        ovalIsARectangle();
        theFirstOvalOfSeveral();
        ovalApart();
        withoutASquare();
        Check.end("EdgesOfPlacesTest");
    }

    /** "UNKNOWN: STONE (one in the last row, column: so, too)" */
    private static void lastRowAndColumn() {
        for (int high = 2; high <= 5; high++) {
            for (int wide = 2; wide <= 6; wide++) {
                BreathSquare x = Check.laid(Check.alike(high, wide, "f5"));
                for (int c = -1; c <= high * wide; c++) {
                    boolean isPlace = c >= 0 && c % wide != wide - 1 && c / wide < high - 1;
                    Check.same("stall at " + c + " of " + high + " by " + wide, x.wedges(c, 11), isPlace ? 0 : UNKNOWN);
                }
            }
        }
        BreathSquare x = Check.laid(Check.alike(5, 6, "f5"));
        Check.same("the last place", x.wedges(22, 0), 0);
        Check.same("in the last column", x.wedges(23, 0), UNKNOWN);
        Check.same("in the last row", x.wedges(24, 0), UNKNOWN);
        Check.same("month 12", x.wedges(22, 12), UNKNOWN);
        Check.same("month -1", x.wedges(22, -1), UNKNOWN);
    }

    /** "for each of the four how much lower it is than the highest one, summed up" */
    private static void fewestAndMostWedges() {
        for (int highest = 0; highest < 4; highest++) {
            String[] stones = {"s0", "s0", "s0", "s0"};
            stones[highest] = "f9";
            BreathSquare x = Check.laid("q22;" + stones[0] + stones[1] + ";" + stones[2] + stones[3]);
            x.lift(highest, 99);
            x.month(3, 9, 9);
            Check.same("most", x.wedges(0, 3), 3 * 234);
            Check.same("most, best", x.best(3, 1), 3 * 234);
            Check.same("dry", x.wedges(0, 2), 3 * 189);
        }
        BreathSquare level = Check.laid("q22;s9s9;s9s9");
        Check.same("none", level.wedges(0, 0), 0);
        for (int lower = 0; lower < 4; lower++) {
            BreathSquare x = Check.laid("q22;s5s5;s5s5");
            for (int c = 0; c < 4; c++) {
                x.lift(c, c == lower ? 0 : 1);
            }
            Check.same("one of them by 1", x.wedges(0, 0), 1);
        }
    }

    /** "the place with the fewest WEDGES in a MONTH; of several the first" */
    private static void theBestPlace() {
        BreathSquare x = Check.laid(Check.alike(5, 6, "s5"));
        Check.same("all alike", x.best(0, 0), 0);
        Check.same("all alike, wedges", x.best(0, 1), 0);
        int[] corners = {22, 23, 28, 29};
        for (int c = 0; c < 30; c++) {
            boolean isCorner = c == corners[0] || c == corners[1] || c == corners[2] || c == corners[3];
            x.lift(c, isCorner || (c / 6 + c % 6) % 2 == 0 ? 0 : 1);
        }
        Check.same("the last one", x.best(0, 0), 22);
        Check.same("the last one, wedges", x.best(0, 1), 0);
        x.lift(22, 1);
        x.lift(29, 1);
        Check.same("none better than the first", x.best(0, 0), 0);
        Check.same("none better than the first, wedges", x.best(0, 1), 2);
        Check.same("what -1", x.best(0, -1), OUTSIDE);
        Check.same("what 2", x.best(0, 2), OUTSIDE);
        Check.same("month -1", x.best(-1, 0), UNKNOWN);
        Check.same("month 12", x.best(12, 0), UNKNOWN);
    }

    private static void theOnlyPlace() {
        BreathSquare x = Check.laid("q22;s0s9;s9s0");
        Check.same("place", x.best(11, 0), 0);
        Check.same("wedges", x.best(11, 1), 180);
    }

    /** "NONE: there is no room" */
    private static void roomForTwo() {
        for (int high = 2; high <= 5; high++) {
            for (int wide = 2; wide <= 6; wide++) {
                BreathSquare x = Check.laid(Check.alike(high, wide, "s3"));
                boolean isRoom = high >= 4 || wide >= 4;
                int second = wide >= 4 ? 2 : 2 * wide;
                String what = "two of " + high + " by " + wide;
                Check.same(what + ": first", x.two(0, 0), isRoom ? 0 : NONE);
                Check.same(what + ": second", x.two(0, 1), isRoom ? second : NONE);
                Check.same(what + ": wedges", x.two(0, 2), isRoom ? 0 : NONE);
                Check.same(what + ": what 3", x.two(0, 3), OUTSIDE);
                Check.same(what + ": what -1", x.two(0, -1), OUTSIDE);
                Check.same(what + ": month 12", x.two(12, 0), UNKNOWN);
                Check.same(what + ": month -1", x.two(-1, 0), UNKNOWN);
            }
        }
    }

    private static void two(String what, BreathSquare x, int first, int second, int wedges) {
        Check.same(what + ": first", x.two(0, 0), first);
        Check.same(what + ": second", x.two(0, 1), second);
        Check.same(what + ": wedges", x.two(0, 2), wedges);
    }

    /** "two STALLS that have no STONE in common" */
    private static void noStoneInCommon() {
        BreathSquare corner = Check.laid("q34;s1s1s9s0;s1s1s1s9;s0s1s1s9");
        Check.same("level at 0", corner.wedges(0, 0), 0);
        Check.same("level at 5", corner.wedges(5, 0), 0);
        two("0 and 5 have 5 in common", corner, 0, 6, 160);
        two("side by side", Check.laid("q24;s1s1s5s5;s1s1s5s5"), 0, 2, 0);
        two("one below the other", Check.laid("q42;s1s1;s1s1;s5s5;s5s5"), 0, 4, 0);
        two("side by side, one lower", Check.laid("q34;s1s1s9s0;s1s1s5s5;s0s9s5s5"), 0, 6, 0);
        two("one below the other, one further", Check.laid("q43;s1s1s0;s1s1s9;s0s5s5;s9s5s5"), 0, 7, 0);
        two("the first lies to the right", Check.laid("q34;s0s9s1s1;s5s5s1s1;s5s5s9s0"), 2, 4, 0);
        BreathSquare line = Check.laid("q25;s1s1s1s9s1;s1s1s1s9s1");
        Check.same("level at 1, too", line.wedges(1, 0), 0);
        two("0 and 1 have two in common", line, 0, 2, 160);
    }

    /** "of several the least first one, then the least second one (the first is the lesser)" */
    private static void theFirstPairOfSeveral() {
        two("all alike in a row", Check.laid(Check.alike(2, 6, "s1")), 0, 2, 0);
        two("all alike in a column", Check.laid(Check.alike(5, 2, "s1")), 0, 4, 0);
        two("all alike, three wide", Check.laid(Check.alike(5, 3, "s1")), 0, 6, 0);
        BreathSquare x = Check.laid(Check.alike(2, 6, "s1"));
        x.lift(2, 1);
        two("the second one later", x, 0, 3, 0);
        x.lift(0, 1);
        x.lift(4, 1);
        two("all alike again", x, 0, 2, 2 * 3);
        x.lift(0, 0);
        x.lift(2, 0);
        x.lift(4, 0);
        x.lift(0, 2);
        two("the first one later", x, 1, 3, 0);
        BreathSquare last = Check.laid("q26;s0s9s1s1s1s1;s9s0s1s1s1s1");
        two("the last pair", last, 2, 4, 0);
    }

    /** "with the fewest WEDGES together": the best place alone need not be one of them. */
    private static void fewestTogether() {
        BreathSquare x = Check.laid("q24;s1s2s2s1;s1s2s2s1");
        Check.same("best alone", x.best(0, 0), 1);
        two("without it", x, 0, 2, 40);
        BreathSquare most = Check.laid("q24;s0s0f9f9;s0f9s0s0");
        most.month(0, 9, 9);
        for (int c : new int[] {2, 3, 5}) {
            most.lift(c, 99);
        }
        two("most", most, 0, 2, 3 * 234 + 2 * 234);
    }

    private static void oval(String what, BreathSquare x, int apart, int size, int first, int last) {
        Check.same(what + ": size", x.oval(0, apart, 0), size);
        Check.same(what + ": first", x.oval(0, apart, 1), first);
        Check.same(what + ": last", x.oval(0, apart, 2), last);
    }

    /** "the highest is no more than a told number above the lowest" */
    private static void ovalNoMoreThanTold() {
        BreathSquare x = Check.laid("q22;s1s1;s1s1");
        x.lift(3, 7);
        oval("just so", x, 7, 4, 0, 3);
        oval("one less", x, 6, 2, 0, 1);
        x.lift(1, 7);
        oval("in a column, just so", x, 0, 2, 0, 2);
        x.lift(0, 14);
        oval("between the highest and the lowest, not neighbours", x, 14, 4, 0, 3);
        oval("one less than those", x, 13, 2, 0, 1);
    }

    private static void ovalOfOneStone() {
        BreathSquare x = Check.laid("q22;s1s2;s3s4");
        oval("no two", x, 9, 1, 0, 0);
        oval("two", x, 10, 2, 0, 1);
        oval("all", x, 30, 4, 0, 3);
        oval("no two again", x, 9, 1, 0, 0);
        oval("two behind the first", Check.laid("q22;s1s2;s3s3"), 0, 2, 2, 3);
        BreathSquare y = Check.laid("q22;s1s2;s3s3");
        oval("two behind the first, then", y, 0, 2, 2, 3);
        y.lift(3, 1);
        oval("none of two any more", y, 0, 1, 0, 0);
        BreathSquare large = Check.laid("q56;s0s1s0s1s0s1;s1s0s1s0s1s0;s0s1s0s1s0s1;s1s0s1s0s1s0;s0s1s0s1s0s2");
        oval("no two of the largest square", large, 9, 1, 0, 0);
        oval("the last one is too high", large, 10, 25, 0, 28);
        oval("all", large, 20, 30, 0, 29);
    }

    private static void ovalOfAllStones() {
        for (int high = 2; high <= 5; high++) {
            for (int wide = 2; wide <= 6; wide++) {
                BreathSquare x = Check.laid(Check.alike(high, wide, "c4"));
                oval("all alike", x, 0, high * wide, 0, high * wide - 1);
            }
        }
    }

    /** "the rectangle of STONES" */
    private static void ovalIsARectangle() {
        oval("around a hole", Check.laid("q33;s1s1s1;s1s9s1;s1s1s1"), 0, 3, 0, 2);
        oval("a cross", Check.laid("q33;s9s1s9;s1s1s1;s9s1s9"), 0, 3, 1, 7);
        oval("over the end of a row", Check.laid("q23;s9s1s1;s1s1s9"), 0, 2, 1, 2);
        oval("the last two rows", Check.laid("q33;s9s0s9;s1s1s1;s1s1s1"), 0, 6, 3, 8);
        oval("the last two columns", Check.laid("q33;s9s1s1;s0s1s1;s9s1s1"), 0, 6, 1, 8);
        oval("the middle", Check.laid("q44;s9s0s9s0;s0s5s5s9;s9s5s5s0;s0s9s0s9"), 0, 4, 5, 10);
        oval("from a column to one on its left", Check.laid("q22;s9s1;s1s8"), 0, 1, 0, 0);
    }

    /** "of several the least first STONE, then the least last one" */
    private static void theFirstOvalOfSeveral() {
        oval("wide and high from 0 on", Check.laid("q33;s1s1s1;s1s1s1;s1s1s9"), 0, 6, 0, 5);
        oval("two rows of three", Check.laid("q33;s1s1s1;s9s8s7;s1s1s1"), 0, 3, 0, 2);
        oval("two columns of three", Check.laid("q33;s1s9s1;s1s8s1;s1s7s1"), 0, 3, 0, 6);
        oval("a larger one behind", Check.laid("q33;s1s1s9;s8s7s9;s1s2s9"), 0, 3, 2, 8);
        oval("least first, though its last is larger", Check.laid("q33;s1s8s7;s1s9s9;s1s9s9"), 0, 4, 4, 8);
        oval("of four stones each", Check.laid("q25;s1s1s9s2s2;s1s1s8s2s2"), 0, 4, 0, 6);
    }

    /** "apart (0 .. 999), what" */
    private static void ovalApart() {
        BreathSquare x = Check.laid("q22;s0f9;s0s0");
        x.lift(1, 99);
        x.month(0, 9, 9);
        oval("0", x, 0, 2, 0, 2);
        oval("999", x, 999, 4, 0, 3);
        oval("234", x, 234, 4, 0, 3);
        oval("233", x, 233, 2, 0, 2);
        Check.same("-1", x.oval(0, -1, 0), OUTSIDE);
        Check.same("1000", x.oval(0, 1000, 0), OUTSIDE);
        Check.same("what -1", x.oval(0, 0, -1), OUTSIDE);
        Check.same("what 3", x.oval(0, 0, 3), OUTSIDE);
        Check.same("month -1", x.oval(-1, 0, 0), UNKNOWN);
        Check.same("month 12", x.oval(12, 0, 0), UNKNOWN);
        Check.same("month 11", x.oval(11, 188, 0), 2);
        Check.same("month 11, just so", x.oval(11, 189, 0), 4);
    }

    /** "STATE: there is no SQUARE" */
    private static void withoutASquare() {
        BreathSquare x = new BreathSquare();
        Check.lay(x, "q22;s1s1;s1s");
        Check.same("best", x.best(0, 0), STATE);
        Check.same("two", x.two(0, 0), STATE);
        Check.same("oval", x.oval(0, 0, 0), STATE);
        Check.same("wedges", x.wedges(0, 0), UNKNOWN);
        Check.lay(x, "q22;s1s1;s1s1");
        Check.same("best of a square", x.best(0, 0), 0);
        Check.same("two of a square", x.two(0, 0), NONE);
        Check.same("oval of a square", x.oval(0, 0, 0), 4);
    }
}
