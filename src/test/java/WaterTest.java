/** Promises 15 to 18: depth, pool, drain, statue. */
public final class WaterTest {
    public static void main(String[] args) {
        depthAndPool();
        drain();
        statue();
        refusals();
        Check.end("WaterTest");
    }

    private static void depthAndPool() {
        BreathSquare bowl = Check.laid("q33;s0s5s0;s5s1s4;s0s6s0");
        Check.same("bowl", bowl.depth(4, 0), 30);
        Check.same("bowl: pool", bowl.pool(0), 30);
        Check.same("corners hold nothing back", bowl.depth(0, 0), 0);
        bowl.lift(4, 30);
        Check.same("just full", bowl.depth(4, 0), 0);
        bowl.lift(4, 31);
        Check.same("above", bowl.depth(4, 0), 0);
        Check.same("above: pool", bowl.pool(0), 0);
        BreathSquare hill = Check.laid("q33;s1s1s1;s1s9s1;s1s1s1");
        Check.same("hill", hill.depth(4, 0), 0);
        BreathSquare pair = Check.laid("q34;s9s9s9s9;s9s1s3s7;s9s9s9s9");
        Check.same("over one to the edge", pair.depth(5, 0), 60);
        Check.same("next to the edge", pair.depth(6, 0), 40);
        Check.same("pair: pool", pair.pool(0), 100);
        BreathSquare sill = Check.laid("q34;s9s9s9s9;s9s1s3s2;s9s9s9s9");
        Check.same("behind a sill", sill.depth(5, 0), 20);
        Check.same("the sill", sill.depth(6, 0), 0);
        BreathSquare wet = Check.laid("q33;s0s5s0;s5s1c4;s0s6s0");
        wet.month(7, 3, 0);
        Check.same("higher edge in a wet month", wet.depth(4, 7), 39);
        Check.same("in a dry one", wet.depth(4, 6), 30);
        Check.same("pool in a wet month", wet.pool(7), 39);
        Check.same("no inner stones", Check.laid("q26;s9s0s9s0s9s0;s9s9s9s9s9s9").pool(0), 0);
        Check.same("runs off upwards", Check.laid("q33;s9s4s9;s9s1s9;s9s9s9").depth(4, 0), 30);
        Check.same("runs off to the left", Check.laid("q33;s9s9s9;s4s1s9;s9s9s9").depth(4, 0), 30);
        Check.same("runs off to the right", Check.laid("q33;s9s9s9;s9s1s4;s9s9s9").depth(4, 0), 30);
        Check.same("runs off downwards", Check.laid("q33;s9s9s9;s9s1s9;s9s4s9").depth(4, 0), 30);
        Check.same("largest square", Check.laid("q56" + ";s9s9s9s9s9s9".repeat(2) + ";s9s1s1s1s1s9"
                + ";s9s9s9s9s9s9".repeat(2)).pool(0), 320);
        BreathSquare snake = Check.laid("q56;s9s9s9s9s9s9;s9s1s9s1s1s9;s9s1s9s1s9s9;s9s1s1s1s9s9;s9s0s9s9s9s9");
        Check.same("all around", snake.pool(0), 0);
        snake.lift(25, 25);
        Check.same("a long way back", snake.depth(10, 0), 15);
        Check.same("a long way back: pool", snake.pool(0), 8 * 15);
    }

    private static void drain() {
        BreathSquare bowl = Check.laid("q33;s0s5s0;s5s1s4;s0s6s0");
        drain("a little", bowl, 0, 1, 4, 29);
        drain("all but 1", bowl, 0, 29, 4, 1);
        drain("all", bowl, 0, 30, 4, 0);
        drain("more than all", bowl, 0, 99, 4, 0);
        Check.same("only told", bowl.ofStone(4, 2), 0);
        Check.same("only told: pool", bowl.pool(0), 30);
        drain("nothing to drain", Check.laid("q22;s0s5;s0s5"), 0, 1, 0, 0);
        drain("an edge that must not be lifted", Check.laid("q33;s9s1s9;s9s1s9;s9s9s9"), 0, 5, 0, 0);
        BreathSquare two = Check.laid("q34;s9s9s9s9;s9s1s1s7;s9s9s9s9");
        drain("of several the least", two, 0, 10, 5, 110);
        two.lift(5, 99);
        Check.same("pool with an island", two.pool(0), 60);
        drain("more than 99 in all", two, 0, 60, 6, 0);
        BreathSquare sill = Check.laid("q34;s9s9s9s9;s9s1s3s2;s9s9s9s9");
        drain("the pool, not the sill", sill, 0, 5, 5, 15);
        BreathSquare wet = Check.laid("q33;s0s5s0;s5s1c4;s0s6s0");
        wet.month(7, 3, 0);
        drain("by month", wet, 7, 9, 4, 30);
        BreathSquare wall = Check.laid("q33;s0s5s0;s5s1s4;s0s6s0");
        wall.lift(4, 99);
        drain("lifted to 99 before", wall, 0, 99, 0, 0);
    }

    private static void drain(String what, BreathSquare x, int m, int by, int stone, int pool) {
        Check.same(what + ": stone", x.drain(m, by, 0), stone);
        Check.same(what + ": pool", x.drain(m, by, 1), pool);
    }

    private static void statue() {
        BreathSquare x = Check.laid("q23;s1c1f1;s1s1s2");
        x.month(4, 2, 0);
        x.month(8, 2, 3);
        x.month(9, 9, 9);
        Check.same("stands", x.statue(0, 1, 27), BreathSquare.NONE);
        Check.same("just leans", x.statue(0, 1, 26), 9);
        Check.same("the first month", x.statue(0, 1, 5), 4);
        Check.same("not by just so much", x.statue(0, 1, 6), 9);
        Check.same("the other way", x.statue(1, 0, 5), 4);
        Check.same("by frost alone", x.statue(1, 2, 5), 8);
        Check.same("from the first month on", x.statue(2, 5, 9), 0);
        Check.same("below one another", x.statue(5, 2, 10), 9);
        Check.same("like stones", x.statue(0, 3, 0), BreathSquare.NONE);
        Check.same("in the second row", x.statue(4, 5, 9), 0);
        Check.same("in the second row, stands", x.statue(4, 5, 10), BreathSquare.NONE);
        Check.same("itself", x.statue(1, 1, 0), BreathSquare.STATE);
        Check.same("askew", x.statue(0, 4, 0), BreathSquare.STATE);
        Check.same("end of a row, next one", x.statue(2, 3, 0), BreathSquare.STATE);
        Check.same("two away", x.statue(0, 2, 0), BreathSquare.STATE);
        Check.same("apart -1, askew", x.statue(0, 4, -1), BreathSquare.OUTSIDE);
        Check.same("apart 1000", x.statue(0, 1, 1000), BreathSquare.OUTSIDE);
        Check.same("apart 999", x.statue(0, 1, 999), BreathSquare.NONE);
        Check.same("stone -1", x.statue(-1, 0, -1), BreathSquare.UNKNOWN);
        Check.same("stone 6", x.statue(6, 5, 0), BreathSquare.UNKNOWN);
        Check.same("other -1", x.statue(0, -1, 1000), BreathSquare.UNKNOWN);
        Check.same("other 6", x.statue(5, 6, 0), BreathSquare.UNKNOWN);
    }

    private static void refusals() {
        BreathSquare none = new BreathSquare();
        BreathSquare x = Check.laid("q22;s1s1;s1c3");
        for (BreathSquare b : new BreathSquare[] {none, x}) {
            for (int m : new int[] {-1, 12}) {
                Check.same("pool: month", b.pool(m), BreathSquare.UNKNOWN);
                Check.same("drain: month", b.drain(m, 0, 2), BreathSquare.UNKNOWN);
                Check.same("depth: month", b.depth(0, m), BreathSquare.UNKNOWN);
            }
            Check.same("drain: by 0", b.drain(0, 0, 0), BreathSquare.OUTSIDE);
            Check.same("drain: by 100", b.drain(0, 100, 0), BreathSquare.OUTSIDE);
            Check.same("drain: what -1", b.drain(0, 1, -1), BreathSquare.OUTSIDE);
            Check.same("drain: what 2", b.drain(0, 1, 2), BreathSquare.OUTSIDE);
            Check.same("depth: stone -1", b.depth(-1, 0), BreathSquare.UNKNOWN);
            Check.same("depth: stone 4", b.depth(4, 0), BreathSquare.UNKNOWN);
        }
        Check.same("pool: no square", none.pool(0), BreathSquare.STATE);
        Check.same("drain: no square", none.drain(0, 1, 0), BreathSquare.STATE);
        Check.same("depth: no square", none.depth(0, 0), BreathSquare.UNKNOWN);
        Check.same("statue: no square", none.statue(0, 1, 0), BreathSquare.UNKNOWN);
    }
}
