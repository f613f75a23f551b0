/** Promises 23 to 33: sheet, lose, put, cell, copy, tell, tread, as, trace, fault, many. */
public final class SheetsTest {
    public static void main(String[] args) {
        sheet();
        lose();
        put();
        cell();
        copy();
        copyFaults();
        tellAndTread();
        as();
        whoTellsFaults();
        many();
        Check.end("SheetsTest");
    }

    private static void sheet() {
        BreathSquare x = new BreathSquare();
        for (int k = 0; k < 4; k++) {
            Check.same("empty row", x.sheet(k, k % 3, 0), 1);
            Check.faulty("no cell", x, x.put(k, 0, 1), 3);
            Check.same("longest row", x.sheet(k, k % 3, 80), 1);
            Check.same("last cell", x.put(k, 79, 5), 1);
            Check.faulty("beyond", x, x.put(k, 80, 5), 3);
            Check.same("a new row", x.sheet(k, k % 3, 80), 1);
            Check.same("is 0", x.cell(k, 79, k % 3), 0);
        }
        x.put(0, 0, 7);
        Check.same("sheet -1", x.sheet(-1, 3, -1), BreathSquare.UNKNOWN);
        Check.same("sheet 4", x.sheet(4, 0, 1), BreathSquare.UNKNOWN);
        Check.same("sort -1", x.sheet(0, -1, -1), BreathSquare.OUTSIDE);
        Check.same("sort 3", x.sheet(0, 3, 1), BreathSquare.OUTSIDE);
        Check.same("n 81", x.sheet(0, 0, 81), BreathSquare.OUTSIDE);
        Check.same("n most", x.sheet(0, 0, Integer.MAX_VALUE), BreathSquare.OUTSIDE);
        Check.faulty("n -1", x, x.sheet(0, 2, -1), 4);
        Check.faulty("n least", x, x.sheet(0, 2, Integer.MIN_VALUE), 4);
        Check.same("nothing changed", x.cell(0, 0, 0), 7);
        Check.faulty("n -1", x, x.sheet(0, 2, -1), 4);
        Check.same("refused", x.sheet(0, 0, 81), BreathSquare.OUTSIDE);
        Check.same("fault of a refused call", x.fault(), 0);
        Check.same("shorter", x.sheet(0, 0, 1), 1);
        Check.faulty("beyond a shorter one", x, x.put(0, 1, 1), 3);
        Check.same("longer again", x.sheet(0, 0, 2), 1);
        Check.same("is 0 from the start", x.cell(0, 0, 0) + x.cell(0, 1, 0), 0);
    }

    private static void lose() {
        BreathSquare x = new BreathSquare();
        Check.same("nothing", x.lose(0), 0);
        x.sheet(0, 0, 0);
        Check.same("an empty row is something", x.lose(0), 1);
        Check.same("lost", x.lose(0), 0);
        x.sheet(3, 1, 5);
        Check.faulty("nothing there", x, x.put(0, 0, 0), 1);
        Check.same("lose", x.lose(3), 1);
        Check.same("names no faults", x.fault(), 1);
        Check.same("sheet -1", x.lose(-1), BreathSquare.UNKNOWN);
        Check.same("sheet 4", x.lose(4), BreathSquare.UNKNOWN);
        Check.same("names no faults, refused", x.fault(), 1);
        Check.faulty("nothing there", x, x.put(3, 0, 0), 1);
    }

    private static void put() {
        BreathSquare x = new BreathSquare();
        int[] v = {0, 1, -1, 127, 128, 255, 256, 32767, 32768, -32769, 65536, 0x12345678,
            Integer.MAX_VALUE, Integer.MIN_VALUE};
        for (int sort = 0; sort < 3; sort++) {
            x.sheet(sort, sort, v.length);
            for (int i = 0; i < v.length; i++) {
                Check.same("put", x.put(sort, i, v[i]), 1);
                Check.same("no fault", x.fault(), 0);
            }
            for (int i = 0; i < v.length; i++) {
                int cut = sort == 0 ? (byte) v[i] : sort == 1 ? (short) v[i] : v[i];
                Check.same("cut to sort " + sort, x.cell(sort, i, sort), cut);
            }
        }
        Check.same("sheet -1", x.put(-1, -1, 0), BreathSquare.UNKNOWN);
        Check.same("sheet 4", x.put(4, 0, 0), BreathSquare.UNKNOWN);
        Check.faulty("NULL", x, x.put(3, -1, 0), 1);
        Check.faulty("INDEX below", x, x.put(0, -1, 9), 3);
        Check.faulty("INDEX beyond", x, x.put(0, v.length, 9), 3);
        Check.faulty("INDEX far off", x, x.put(0, Integer.MIN_VALUE, 9), 3);
        Check.same("refused", x.put(4, 0, 0), BreathSquare.UNKNOWN);
        Check.same("fault of a refused call", x.fault(), 0);
    }

    private static void cell() {
        BreathSquare x = new BreathSquare();
        x.sheet(1, 1, 3);
        x.put(1, 2, -300);
        Check.same("cell", x.cell(1, 2, 1), -300);
        Check.lost("sheet -1", x, x.cell(-1, 0, 3), 0);
        Check.lost("sheet 4", x, x.cell(4, 0, 0), 0);
        Check.lost("CAST to bytes", x, x.cell(1, -1, 0), 2);
        Check.lost("CAST to ints", x, x.cell(1, 2, 2), 2);
        Check.lost("sort -1", x, x.cell(1, 0, -1), 0);
        Check.lost("NULL", x, x.cell(0, -1, 0), 1);
        Check.lost("sort 3 of nothing", x, x.cell(0, 0, 3), 0);
        Check.lost("nothing is no CAST", x, x.cell(0, 0, 2), 1);
        Check.lost("INDEX below", x, x.cell(1, -1, 1), 3);
        Check.lost("INDEX beyond", x, x.cell(1, 3, 1), 3);
        Check.same("cell", x.cell(1, 0, 1), 0);
        Check.same("no fault", x.fault(), 0);
    }

    private static BreathSquare counted() {
        BreathSquare x = new BreathSquare();
        x.sheet(0, 2, 6);
        x.sheet(1, 2, 4);
        for (int i = 0; i < 6; i++) {
            x.put(0, i, i + 1);
        }
        return x;
    }

    private static void row(String what, BreathSquare x, int k, int... due) {
        for (int i = 0; i < due.length; i++) {
            Check.same(what + ": cell " + i, x.cell(k, i, 2), due[i]);
        }
    }

    private static void copy() {
        BreathSquare x = counted();
        Check.same("to another one", x.copy(0, 2, 1, 1, 3), 3);
        row("to another one", x, 1, 0, 3, 4, 5);
        row("from one", x, 0, 1, 2, 3, 4, 5, 6);
        x = counted();
        Check.same("upwards", x.copy(0, 0, 0, 1, 5), 5);
        row("upwards", x, 0, 1, 1, 2, 3, 4, 5);
        x = counted();
        Check.same("downwards", x.copy(0, 1, 0, 0, 5), 5);
        row("downwards", x, 0, 2, 3, 4, 5, 6, 6);
        x = counted();
        Check.same("none", x.copy(0, 6, 1, 4, 0), 0);
        Check.same("all of the smaller one", x.copy(0, 2, 1, 0, 4), 4);
        row("all of the smaller one", x, 1, 3, 4, 5, 6);
        Check.same("no fault", x.fault(), 0);
    }

    private static void copyFaults() {
        BreathSquare x = counted();
        x.sheet(2, 1, 4);
        Check.same("sheet -1", x.copy(-1, 0, 3, 0, 1), BreathSquare.UNKNOWN);
        Check.same("sheet 4", x.copy(4, 0, 0, 0, 1), BreathSquare.UNKNOWN);
        Check.same("other -1", x.copy(3, 0, -1, 0, 1), BreathSquare.UNKNOWN);
        Check.same("other 4", x.copy(0, 0, 4, 0, 1), BreathSquare.UNKNOWN);
        Check.faulty("NULL, the first", x, x.copy(3, -1, 0, 0, 1), 1);
        Check.faulty("NULL, the other", x, x.copy(0, -1, 3, 0, 1), 1);
        Check.faulty("CAST", x, x.copy(0, -1, 2, 0, 1), 2);
        Check.faulty("CAST of none", x, x.copy(2, 0, 0, 0, 0), 2);
        int max = Integer.MAX_VALUE;
        int[][] wrong = {{-1, 0, 1}, {0, -1, 1}, {0, 0, -1}, {0, 0, 5}, {3, 0, 4}, {0, 2, 3}, {7, 0, 0},
            {0, 5, 0}, {-1, 0, 0}, {0, -1, 0}, {max, 0, 1}, {0, max, 1}, {1, 1, max}, {max, max, max},
            {0, 0, Integer.MIN_VALUE}, {6, 0, 1}, {0, 4, 1}};
        for (int[] w : wrong) {
            Check.faulty("INDEX", x, x.copy(0, w[0], 1, w[1], w[2]), 3);
        }
        row("nothing changed", x, 1, 0, 0, 0, 0);
        Check.faulty("CAST", x, x.copy(0, 0, 2, 0, 1), 2);
        Check.same("refused", x.copy(0, 0, 4, 0, 1), BreathSquare.UNKNOWN);
        Check.same("fault of a refused call", x.fault(), 0);
    }

    private static int left(int... bodies) {
        int trace = 0;
        for (int body : bodies) {
            trace = 31 * trace + body;
        }
        return trace;
    }

    private static void tellAndTread() {
        BreathSquare x = Check.laid("q22;s1c2;f3s4");
        x.lift(0, 50);
        Check.same("tell a stone", x.tell(0), 1);
        Check.same("trace", x.trace(), left(1));
        Check.same("tell a clay one", x.tell(1), 102);
        Check.same("trace", x.trace(), left(1, 2, 1));
        Check.same("tell a frosty one", x.tell(2), 106);
        Check.same("trace", x.trace(), left(1, 2, 1, 3, 2, 1, 1));
        Check.same("tread a stone", x.tread(3), 3);
        Check.same("trace", x.trace(), left(1, 2, 1, 3, 2, 1, 1, 4));
        Check.same("tread a clay one", x.tread(1), 1);
        Check.same("trace, wraps", x.trace(), left(1, 2, 1, 3, 2, 1, 1, 4, 4));
        Check.same("tread a frosty one", x.tread(2), 50);
        Check.same("trace, wraps", x.trace(), left(1, 2, 1, 3, 2, 1, 1, 4, 4, 5));
        int before = x.trace();
        for (int c : new int[] {-1, 4}) {
            Check.same("tell", x.tell(c), BreathSquare.UNKNOWN);
            Check.same("tread", x.tread(c), BreathSquare.UNKNOWN);
        }
        x.as(2, 0);
        x.height(2, 0);
        Check.same("nothing left", x.trace(), before);
        Check.same("no square: tell", new BreathSquare().tell(0), BreathSquare.UNKNOWN);
        Check.same("no square: tread", new BreathSquare().tread(0), BreathSquare.UNKNOWN);
    }

    private static void as() {
        BreathSquare x = Check.laid("q22;s1c2;f3s4");
        for (int c = 0; c < 3; c++) {
            for (int kind = 0; kind < 3; kind++) {
                if (kind <= c) {
                    Check.same("as", x.as(c, kind), 1);
                    Check.same("no fault", x.fault(), 0);
                } else {
                    Check.faulty("CAST", x, x.as(c, kind), 2);
                }
            }
        }
        Check.faulty("CAST", x, x.as(0, 2), 2);
        Check.same("kind -1", x.as(0, -1), BreathSquare.OUTSIDE);
        Check.same("fault of a refused call", x.fault(), 0);
        Check.same("kind 3", x.as(2, 3), BreathSquare.OUTSIDE);
        Check.faulty("CAST", x, x.as(0, 2), 2);
        Check.same("stone -1", x.as(-1, 3), BreathSquare.UNKNOWN);
        Check.same("fault of a refused call", x.fault(), 0);
        Check.same("stone 4", x.as(4, 0), BreathSquare.UNKNOWN);
    }

    private static void whoTellsFaults() {
        BreathSquare x = Check.laid("q22;s1c2;f3s4");
        Check.faulty("CAST", x, x.as(0, 2), 2);
        x.ofStone(0, 9);
        x.month(0, 1, 1);
        x.month(99, 1, 1);
        x.lift(0, 1);
        x.height(0, 99);
        x.rises(0, 0);
        x.way(0, 3, 0, 0, 0);
        x.holds(0, 3, 0, 0, 0);
        x.leastStep(0, 3, 0);
        x.wedges(0, 0);
        x.best(0, 0);
        x.two(0, 0);
        x.oval(0, 0, 0);
        x.depth(0, 0);
        x.pool(0);
        x.drain(0, 1, 0);
        x.statue(0, 3, 0);
        x.nights(0, 1, 0);
        x.reading(0, 0, 0);
        x.back(1);
        x.kinds(0);
        x.lose(1);
        x.tell(2);
        x.tread(2);
        x.trace();
        x.many(3);
        Check.same("calls that name no faults leave it", x.fault(), 2);
        Check.same("twice", x.fault(), 2);
        Check.same("put", x.put(0, 0, 1), 1);
        Check.same("a call that names faults and came to none", x.fault(), 0);
    }

    private static void many() {
        BreathSquare x = Check.laid("q23;s1c2f3;s4s5s6");
        x.reading(0, 0, 0);
        Check.same("stones", x.many(0), 6);
        Check.same("wide", x.many(1), 3);
        Check.same("readings", x.many(2), 1);
        Check.same("what -1", x.many(-1), BreathSquare.OUTSIDE);
        Check.same("what 3", x.many(3), BreathSquare.OUTSIDE);
    }
}
