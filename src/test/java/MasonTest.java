/** Promises 19 to 22: nights, reading, back, kinds. */
public final class MasonTest {
    public static void main(String[] args) {
        nights();
        nightsAtTheEdge();
        refusalsOfNights();
        readings();
        kinds();
        Check.end("MasonTest");
    }

    private static void nights() {
        BreathSquare x = Check.laid("q22;s1s1;s1s2");
        Check.same("at once", x.nights(0, 1, 10), 0);
        Check.same("one by one", x.nights(0, 1, 9), 3);
        Check.same("three at once", x.nights(0, 3, 9), 1);
        Check.same("three at once, till like", x.nights(0, 3, 0), 10);
        Check.same("one by one, till like", x.nights(0, 1, 0), 30);
        Check.same("all: never", x.nights(0, 4, 9), BreathSquare.NONE);
        Check.same("more than all: never", x.nights(0, 9, 9), BreathSquare.NONE);
        Check.same("more than all, at once", x.nights(0, 9, 10), 0);
        Check.same("two by two", x.nights(0, 2, 0), 15);
        Check.same("only told", x.ofStone(0, 2) + x.ofStone(1, 2) + x.ofStone(2, 2), 0);
        x.lift(0, 99);
        Check.same("more than 99", x.nights(0, 3, 0), nightsByHand(109, 10, 10, 20, 3, 0));
        BreathSquare y = Check.laid("q22;s1c1;s1f1");
        y.month(2, 1, 1);
        Check.same("by month", y.nights(2, 2, 3), 2);
        Check.same("by another month", y.nights(1, 2, 0), 0);
    }

    /** Lifts the k lowest of four stones, by looking for each of them anew. */
    private static int nightsByHand(int a, int b, int c, int d, int k, int apart) {
        int[] h = {a, b, c, d};
        for (int night = 0; night <= 500; night++) {
            int low = Math.min(Math.min(h[0], h[1]), Math.min(h[2], h[3]));
            int top = Math.max(Math.max(h[0], h[1]), Math.max(h[2], h[3]));
            if (top - low <= apart) {
                return night;
            }
            boolean[] done = new boolean[4];
            for (int n = 0; n < k; n++) {
                int least = -1;
                for (int i = 0; i < 4; i++) {
                    if (!done[i] && (least < 0 || h[i] < h[least])) {
                        least = i;
                    }
                }
                done[least] = true;
                h[least]++;
            }
        }
        return BreathSquare.NONE;
    }

    private static void nightsAtTheEdge() {
        BreathSquare x = Check.laid("q23;s0s0s0;s0s0s9");
        x.lift(5, 10);
        Check.same("just 500", x.nights(0, 1, 0), 500);
        x.lift(5, 11);
        Check.same("505", x.nights(0, 1, 0), BreathSquare.NONE);
        Check.same("505, less one", x.nights(0, 1, 1), 500);
        x.lift(0, 4);
        Check.same("501", x.nights(0, 1, 0), BreathSquare.NONE);
        x.lift(0, 5);
        Check.same("500 again", x.nights(0, 1, 0), 500);
    }

    private static void refusalsOfNights() {
        BreathSquare none = new BreathSquare();
        BreathSquare x = Check.laid("q22;s1s1;s1s2");
        for (BreathSquare b : new BreathSquare[] {none, x}) {
            Check.same("month -1", b.nights(-1, 0, 0), BreathSquare.UNKNOWN);
            Check.same("month 12", b.nights(12, 1, -1), BreathSquare.UNKNOWN);
            Check.same("k 0", b.nights(0, 0, 0), BreathSquare.OUTSIDE);
            Check.same("k 10", b.nights(0, 10, 0), BreathSquare.OUTSIDE);
            Check.same("apart -1", b.nights(0, 1, -1), BreathSquare.OUTSIDE);
            Check.same("apart 1000", b.nights(0, 1, 1000), BreathSquare.OUTSIDE);
        }
        Check.same("no square", none.nights(0, 9, 999), BreathSquare.STATE);
        Check.same("k 9, apart 999", x.nights(0, 9, 999), 0);
    }

    private static void readings() {
        BreathSquare x = Check.laid("q22;s1c2;f3s4");
        Check.same("back of none", x.back(0), 0);
        Check.same("back of more", x.back(1), BreathSquare.OUTSIDE);
        for (int k = 0; k < 10; k++) {
            Check.same("number", x.reading(k % 4, k, 111 * k), k);
        }
        Check.same("how many", x.many(2), 10);
        Check.same("full", x.reading(0, 0, 0), BreathSquare.FULL);
        Check.same("full: stone 4", x.reading(4, 0, 1000), BreathSquare.UNKNOWN);
        Check.same("full: stone -1", x.reading(-1, 0, 0), BreathSquare.UNKNOWN);
        Check.same("full: month 12", x.reading(0, 12, -1), BreathSquare.UNKNOWN);
        Check.same("full: month -1", x.reading(0, -1, 0), BreathSquare.UNKNOWN);
        Check.same("full: height -1", x.reading(0, 0, -1), BreathSquare.OUTSIDE);
        Check.same("full: height 1000", x.reading(0, 0, 1000), BreathSquare.OUTSIDE);
        Check.same("back 0", x.back(0), 10);
        Check.same("back -1", x.back(-1), BreathSquare.OUTSIDE);
        Check.same("back 11", x.back(11), BreathSquare.OUTSIDE);
        Check.same("back 3", x.back(3), 7);
        Check.same("the next number", x.reading(0, 0, 999), 7);
        Check.same("back 8", x.back(8), 0);
        Check.same("none left", x.many(2), 0);
        Check.same("the first again", x.reading(0, 0, 0), 0);
    }

    private static void kinds() {
        BreathSquare x = Check.laid("q22;s1c2;f3s4");
        Check.same("of nothing", x.kinds(0), 7);
        x.reading(0, 0, 10);
        Check.same("dry month", x.kinds(0), 7);
        x.month(1, 2, 0);
        x.month(2, 2, 1);
        x.month(3, 0, 1);
        x.reading(0, 1, 16);
        Check.same("wet month", x.kinds(0), 6);
        Check.same("others", x.kinds(1), 7);
        x.reading(0, 2, 18);
        Check.same("frosty month", x.kinds(0), 4);
        x.reading(0, 3, 10);
        Check.same("no kind", x.kinds(0), 0);
        x.back(2);
        Check.same("taken back", x.kinds(0), 6);
        x.lift(0, 1);
        Check.same("lifted as it is", x.kinds(0), 0);
        x.lift(0, 0);
        x.month(1, 0, 3);
        Check.same("months as they are", x.kinds(0), 4);
        x.back(2);
        x.reading(0, 2, 18);
        Check.same("by the first reading alone", x.kinds(0), 4);
        x.reading(1, 3, 20);
        Check.same("not frosty", x.kinds(1), 3);
        Check.same("stone -1", x.kinds(-1), BreathSquare.UNKNOWN);
        Check.same("stone 4", x.kinds(4), BreathSquare.UNKNOWN);
        Check.same("no square", new BreathSquare().kinds(0), BreathSquare.UNKNOWN);
    }
}
