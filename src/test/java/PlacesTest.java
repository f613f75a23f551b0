/** Promises 11 to 14: wedges, best, two, oval. */
public final class PlacesTest {
    public static void main(String[] args) {
        wedges();
        best();
        two();
        oval();
        refusals();
        Check.end("PlacesTest");
    }

    private static void wedges() {
        BreathSquare x = Check.laid("q33;s1s2s3;s4s5c5;s9s8s7");
        Check.same("at 0", x.wedges(0, 0), 40 + 30 + 10);
        Check.same("at 1", x.wedges(1, 0), 30 + 20);
        Check.same("at 3", x.wedges(3, 0), 50 + 40 + 10);
        Check.same("at 4", x.wedges(4, 0), 30 + 30 + 10);
        x.month(6, 1, 0);
        Check.same("at 4, wet", x.wedges(4, 6), 30 + 27 + 10);
        Check.same("at 1, wet", x.wedges(1, 6), 33 + 23 + 3);
        for (int c : new int[] {2, 5, 6, 7, 8, 9, -1, Integer.MAX_VALUE}) {
            Check.same("no stall at " + c, x.wedges(c, 0), BreathSquare.UNKNOWN);
        }
        Check.same("month -1", x.wedges(0, -1), BreathSquare.UNKNOWN);
        Check.same("month 12", x.wedges(0, 12), BreathSquare.UNKNOWN);
    }

    private static void best() {
        BreathSquare x = Check.laid("q33;s1s2s3;s4s5c5;s9s8s7");
        Check.same("place", x.best(0, 0), 1);
        Check.same("wedges", x.best(0, 1), 50);
        BreathSquare y = Check.laid("q33;s1s2s1;s2s1s2;c1s2s1");
        Check.same("of several the first", y.best(0, 0), 0);
        Check.same("their wedges", y.best(0, 1), 20);
        y.month(1, 2, 0);
        Check.same("by month", y.best(1, 0), 3);
        Check.same("by month, wedges", y.best(1, 1), 14);
        y.lift(0, 1);
        y.lift(2, 1);
        y.lift(6, 9);
        Check.same("by lifting", y.best(0, 0), 3);
        Check.same("by lifting, wedges", y.best(0, 1), 11);
        Check.same("by lifting, in a wet month", y.best(1, 0), 0);
        Check.same("smallest square", Check.laid("q22;s0s1;s2s3").best(0, 1), 60);
    }

    private static void two() {
        BreathSquare small = Check.laid("q33;s1s2s3;s4s5c5;s9s8s7");
        BreathSquare tall = Check.laid("q53;s1s1s1;s1s1s1;s1s1s1;s1s1s1;s1s1s1");
        BreathSquare wide = Check.laid("q25;s0s9s0s1s0;s0s9s0s1s0");
        for (int what = 0; what < 3; what++) {
            Check.same("no room", small.two(0, what), BreathSquare.NONE);
            Check.same("tall", tall.two(0, what), new int[] {0, 6, 0}[what]);
            Check.same("wide", wide.two(0, what), new int[] {0, 2, 200}[what]);
        }
        wide.lift(4, 1);
        Check.same("wide, lifted: first", wide.two(0, 0), 0);
        Check.same("wide, lifted: second", wide.two(0, 1), 3);
        Check.same("wide, lifted: together", wide.two(0, 2), 199);
        BreathSquare x = Check.laid("q33;s0s0s0;s0s0s0;s0s0s0");
        Check.same("three by three has no room", x.two(0, 2), BreathSquare.NONE);
        BreathSquare y = Check.laid("q34;s0s5s9s9;s0s0s9s9;s9s5s0s9");
        Check.same("greedy is not best: first", y.two(0, 0), 0);
        Check.same("greedy is not best: second", y.two(0, 1), 2);
        Check.same("greedy is not best: together", y.two(0, 2), 150);
        BreathSquare z = Check.laid("q22;s0s0;s0s0");
        Check.same("two by two", z.two(0, 0), BreathSquare.NONE);
    }

    private static void oval() {
        BreathSquare x = Check.laid("q33;s1s2s1;s1s2s1;s9s9s1");
        oval("flat", x, 0, 0, 3, 2, 8);
        oval("by 10", x, 0, 10, 6, 0, 5);
        oval("by 9", x, 0, 9, 3, 2, 8);
        oval("by 80", x, 0, 80, 9, 0, 8);
        oval("by 79", x, 0, 79, 6, 0, 5);
        BreathSquare y = Check.laid("q22;s1s1;s1c3");
        oval("of several the least last", y, 0, 5, 2, 0, 1);
        y.month(3, 1, 0);
        oval("all in a month", y, 3, 23, 4, 0, 3);
        oval("not all in a month", y, 3, 22, 2, 0, 1);
        oval("all alike", Check.laid("q56;s1s1s1s1s1s1;s1s1s1s1s1s1;s1s1s1s1s1s1;s1s1s1s1s1s1;s1s1s1s1s1s1"),
                0, 0, 30, 0, 29);
        oval("one, behind a larger one", x, 0, 9, 3, 2, 8);
        x.lift(8, 20);
        x.lift(5, 40);
        x.lift(2, 90);
        x.lift(1, 9);
        oval("one, of a square that had a larger one", x, 0, 0, 2, 0, 3);
        x.lift(0, 3);
        x.lift(4, 7);
        x.lift(6, 1);
        oval("one, behind a larger one", x, 0, 0, 1, 0, 0);
        BreathSquare z = Check.laid("q22;s1s2;s2s2");
        oval("not from 0 on", z, 0, 0, 2, 1, 3);
        z.lift(3, 1);
        oval("one, behind one not from 0 on", z, 0, 0, 1, 0, 0);
        oval("one", Check.laid("q22;s1s2;s3s4"), 0, 9, 1, 0, 0);
        oval("of several the least first", Check.laid("q32;s0s5;s5s0;s0s0"), 11, 0, 2, 3, 5);
    }

    private static void oval(String what, BreathSquare x, int m, int apart, int size, int first, int last) {
        Check.same(what + ": size", x.oval(m, apart, 0), size);
        Check.same(what + ": first", x.oval(m, apart, 1), first);
        Check.same(what + ": last", x.oval(m, apart, 2), last);
    }

    private static void refusals() {
        BreathSquare none = new BreathSquare();
        BreathSquare x = Check.laid("q22;s1s1;s1c3");
        for (BreathSquare b : new BreathSquare[] {none, x}) {
            for (int m : new int[] {-1, 12, Integer.MIN_VALUE}) {
                Check.same("best: month", b.best(m, 2), BreathSquare.UNKNOWN);
                Check.same("two: month", b.two(m, 3), BreathSquare.UNKNOWN);
                Check.same("oval: month", b.oval(m, -1, 3), BreathSquare.UNKNOWN);
            }
            for (int what : new int[] {-1, 2}) {
                Check.same("best: what", b.best(0, what), BreathSquare.OUTSIDE);
            }
            for (int what : new int[] {-1, 3}) {
                Check.same("two: what", b.two(0, what), BreathSquare.OUTSIDE);
                Check.same("oval: what", b.oval(0, 0, what), BreathSquare.OUTSIDE);
            }
            Check.same("oval: apart -1", b.oval(0, -1, 0), BreathSquare.OUTSIDE);
            Check.same("oval: apart 1000", b.oval(0, 1000, 0), BreathSquare.OUTSIDE);
        }
        Check.same("best: no square", none.best(11, 1), BreathSquare.STATE);
        Check.same("two: no square", none.two(11, 2), BreathSquare.STATE);
        Check.same("oval: no square", none.oval(11, 999, 2), BreathSquare.STATE);
    }
}
