/** The document's sentences on sheets, faults, telling and casts (promises 23 to 33) at their boundaries. */
public final class EdgesOfSheetsTest {
    private static final int UNKNOWN = BreathSquare.UNKNOWN;
    private static final int OUTSIDE = BreathSquare.OUTSIDE;
    private static final int MIN = Integer.MIN_VALUE;
    private static final int MAX = Integer.MAX_VALUE;
    private static final String SMALL = "q22;s1c2;f3s4";

    public static void main(String[] args) {
        sheetsByNumber();
        rowsOf0To80();
        lengthBelow0();
        aNewRow();
        nothingAndAnEmptyRow();
        cutToItsSort();
        cellsByIndex();
        cellFaults();
        copyAtTheEnds();
        copyOfNone();
        copyBeyond();
        copyOnToItself();
        copyFaults();
        faultsChangeNothing();
        tellings();
        trodden();
        traceWraps();
        traceStays();
        casts();
        latestFault();
        many();
        Check.end("EdgesOfSheetsTest");
    }

    /** "SHEETS 0 .. 3 have nothing (at first)" */
    private static void sheetsByNumber() {
        BreathSquare x = new BreathSquare();
        for (int k : new int[] {0, 3}) {
            Check.same("lose nothing", x.lose(k), 0);
            Check.same("a row", x.sheet(k, 1, 2), 1);
            Check.same("put", x.put(k, 1, 10 + k), 1);
            Check.same("cell", x.cell(k, 1, 1), 10 + k);
        }
        Check.same("copy", x.copy(3, 0, 0, 0, 2), 2);
        Check.same("copied", x.cell(0, 1, 1), 13);
        for (int k : new int[] {-1, 4, MIN, MAX}) {
            Check.same("square of " + k, x.square(k, 1, 0, 0), UNKNOWN);
            Check.same("sheet " + k, x.sheet(k, 1, 2), UNKNOWN);
            Check.same("lose " + k, x.lose(k), UNKNOWN);
            Check.same("put " + k, x.put(k, 0, 0), UNKNOWN);
            Check.lost("cell " + k, x, x.cell(k, 0, 1), 0);
            Check.same("copy of " + k, x.copy(k, 0, 0, 0, 0), UNKNOWN);
            Check.same("copy to " + k, x.copy(0, 0, k, 0, 0), UNKNOWN);
        }
        Check.same("lose", x.lose(3), 1);
        Check.same("the other ones stay", x.lose(0), 1);
    }

    /** "a row of 0 .. 80 numbers (0 at first) of a SORT: 0 bytes, 1 shorts, 2 ints"; "OUTSIDE: sort, n above 80" */
    private static void rowsOf0To80() {
        for (int sort = 0; sort < 3; sort++) {
            BreathSquare x = new BreathSquare();
            Check.same("80", x.sheet(0, sort, 80), 1);
            for (int i = 0; i < 80; i++) {
                Check.same("0 at first", x.cell(0, i, sort), 0);
            }
            Check.lost("cell 80", x, x.cell(0, 80, sort), Check.INDEX);
            Check.same("the last cell", x.put(0, 79, 5), 1);
            Check.same("81", x.sheet(0, sort, 81), OUTSIDE);
            Check.same("most", x.sheet(0, sort, MAX), OUTSIDE);
            Check.same("the row stays", x.cell(0, 79, sort), 5);
            Check.same("1", x.sheet(0, sort, 1), 1);
            Check.same("its cell", x.cell(0, 0, sort), 0);
            Check.lost("no cell 1", x, x.cell(0, 1, sort), Check.INDEX);
            Check.same("0", x.sheet(0, sort, 0), 1);
            Check.lost("no cell 0", x, x.cell(0, 0, sort), Check.INDEX);
        }
        BreathSquare x = new BreathSquare();
        for (int sort : new int[] {-1, 3, MIN, MAX}) {
            Check.same("sort " + sort, x.sheet(0, sort, 1), OUTSIDE);
        }
        Check.same("still nothing", x.lose(0), 0);
    }

    /** "SIZE (a length below 0)" */
    private static void lengthBelow0() {
        BreathSquare x = new BreathSquare();
        x.sheet(0, 1, 1);
        x.put(0, 0, 9);
        Check.faulty("-1", x, x.sheet(0, 1, -1), Check.SIZE);
        Check.faulty("least", x, x.sheet(0, 2, MIN), Check.SIZE);
        Check.same("nothing changed", x.cell(0, 0, 1), 9);
        Check.faulty("of nothing", x, x.sheet(1, 1, -1), Check.SIZE);
        Check.same("still nothing", x.lose(1), 0);
        Check.same("OUTSIDE ahead of SIZE", x.sheet(0, 3, -1), OUTSIDE);
        Check.same("UNKNOWN ahead of SIZE", x.sheet(4, 0, -1), UNKNOWN);
        Check.same("no fault", x.fault(), 0);
        Check.same("0", x.sheet(0, 1, 0), 1);
    }

    /** "A SHEET gets a new row": all 0, of another sort, perhaps. */
    private static void aNewRow() {
        BreathSquare x = new BreathSquare();
        x.sheet(0, 2, 4);
        for (int i = 0; i < 4; i++) {
            x.put(0, i, 70000 + i);
        }
        Check.same("shorter", x.sheet(0, 0, 2), 1);
        Check.lost("of another sort", x, x.cell(0, 0, 2), Check.CAST);
        Check.same("0 again", x.cell(0, 0, 0) + x.cell(0, 1, 0), 0);
        Check.lost("shorter", x, x.cell(0, 2, 0), Check.INDEX);
        Check.same("longer", x.sheet(0, 2, 5), 1);
        for (int i = 0; i < 5; i++) {
            Check.same("all 0", x.cell(0, i, 2), 0);
        }
        x.put(0, 4, 1);
        x.lose(0);
        x.sheet(0, 2, 5);
        Check.same("0 behind nothing, too", x.cell(0, 4, 2), 0);
    }

    /** lose: "1; 0: it had nothing"; an empty row is not nothing. */
    private static void nothingAndAnEmptyRow() {
        BreathSquare x = new BreathSquare();
        Check.faulty("put into nothing", x, x.put(0, 0, 0), Check.NULL);
        Check.same("nothing", x.lose(0), 0);
        x.sheet(0, 0, 0);
        Check.faulty("put into an empty row", x, x.put(0, 0, 0), Check.INDEX);
        Check.same("an empty row", x.lose(0), 1);
        Check.same("nothing again", x.lose(0), 0);
        Check.faulty("put into nothing again", x, x.put(0, 0, 0), Check.NULL);
        Check.lost("cell of nothing again", x, x.cell(0, 0, 0), Check.NULL);
    }

    /** "what comes to a cell of it is cut to its SORT" */
    private static void cutToItsSort() {
        int[][] putAndHeld = {{127, 127, 127}, {128, -128, 128}, {-128, -128, -128}, {-129, 127, -129}, {255, -1, 255},
            {256, 0, 256}, {-256, 0, -256}, {32767, -1, 32767}, {32768, 0, -32768}, {-32768, 0, -32768},
            {-32769, -1, 32767}, {65535, -1, -1}, {65536, 0, 0}, {MAX, -1, -1}, {MIN, 0, 0}, {0, 0, 0}, {-1, -1, -1}};
        BreathSquare x = new BreathSquare();
        for (int sort = 0; sort < 3; sort++) {
            x.sheet(sort, sort, 1);
            for (int[] p : putAndHeld) {
                Check.same("put", x.put(sort, 0, p[0]), 1);
                Check.same(p[0] + " in sort " + sort, x.cell(sort, 0, sort), sort == 2 ? p[0] : p[1 + sort]);
            }
        }
        x.put(2, 0, MIN);
        Check.same("the least int is not LOST", x.cell(2, 0, 2), (long) MIN);
        Check.same("no fault", x.fault(), 0);
    }

    /** put: "Cell i of a SHEET becomes v: 1 ... NULL; INDEX" */
    private static void cellsByIndex() {
        BreathSquare x = new BreathSquare();
        x.sheet(1, 2, 3);
        Check.same("the first", x.put(1, 0, 7), 1);
        Check.same("the last", x.put(1, 2, 8), 1);
        Check.same("no fault", x.fault(), 0);
        for (int i : new int[] {-1, 3, MIN, MAX}) {
            Check.faulty("put at " + i, x, x.put(1, i, 9), Check.INDEX);
            Check.lost("cell at " + i, x, x.cell(1, i, 2), Check.INDEX);
        }
        Check.same("the first stays", x.cell(1, 0, 2), 7);
        Check.same("the middle is 0", x.cell(1, 1, 2), 0);
        Check.same("the last stays", x.cell(1, 2, 2), 8);
        for (int i : new int[] {-1, 0, MAX}) {
            Check.faulty("NULL ahead of INDEX", x, x.put(0, i, 9), Check.NULL);
        }
    }

    /** cell: "LOST: UNKNOWN, OUTSIDE: sort; FAULTS CAST (nothing is no CAST), NULL, INDEX" */
    private static void cellFaults() {
        for (int held = 0; held < 3; held++) {
            BreathSquare x = new BreathSquare();
            x.sheet(0, held, 1);
            for (int sort = 0; sort < 3; sort++) {
                for (int i : new int[] {-1, 0, 1}) {
                    if (sort != held) {
                        Check.lost("CAST ahead of INDEX", x, x.cell(0, i, sort), Check.CAST);
                    } else if (i == 0) {
                        Check.same("cell", x.cell(0, i, sort), 0);
                        Check.same("no fault", x.fault(), 0);
                    } else {
                        Check.lost("INDEX", x, x.cell(0, i, sort), Check.INDEX);
                    }
                    Check.lost("nothing is no CAST", x, x.cell(1, i, sort), Check.NULL);
                }
            }
            for (int sort : new int[] {-1, 3, MIN, MAX}) {
                Check.lost("sort " + sort, x, x.cell(0, 0, sort), 0);
                Check.lost("sort " + sort + " of nothing", x, x.cell(1, 0, sort), 0);
            }
        }
    }

    /** Cells 1 .. n of sheet 0, and sheet 1 of m cells 0. */
    private static BreathSquare counted(int n, int m) {
        BreathSquare x = new BreathSquare();
        x.sheet(0, 2, n);
        x.sheet(1, 2, m);
        for (int i = 0; i < n; i++) {
            x.put(0, i, i + 1);
        }
        return x;
    }

    private static void cells(String what, BreathSquare x, int k, int... due) {
        for (int i = 0; i < due.length; i++) {
            Check.same(what + ": cell " + i, x.cell(k, i, 2), due[i]);
        }
        Check.lost(what + ": the end", x, x.cell(k, due.length, 2), Check.INDEX);
    }

    /** copy: "n cells of a SHEET from i on go to another one (perhaps the same) from j on ...: n" */
    private static void copyAtTheEnds() {
        BreathSquare x = counted(4, 4);
        Check.same("all", x.copy(0, 0, 1, 0, 4), 4);
        cells("all", x, 1, 1, 2, 3, 4);
        x = counted(4, 3);
        Check.same("the last to the last", x.copy(0, 3, 1, 2, 1), 1);
        cells("the last to the last", x, 1, 0, 0, 4);
        x = counted(4, 3);
        Check.same("the first to the last", x.copy(0, 0, 1, 2, 1), 1);
        cells("the first to the last", x, 1, 0, 0, 1);
        x = counted(80, 80);
        Check.same("80", x.copy(0, 0, 1, 0, 80), 80);
        Check.same("the last of 80", x.cell(1, 79, 2), 80);
        Check.same("all of 80 but one, on by one", x.copy(0, 0, 0, 1, 79), 79);
        Check.same("the last of 80 is 79", x.cell(0, 79, 2), 79);
        Check.same("the first stays", x.cell(0, 0, 2), 1);
    }

    /** "INDEX (... if none of them is taken, too)" */
    private static void copyOfNone() {
        BreathSquare x = counted(4, 2);
        Check.same("from the start", x.copy(0, 0, 1, 0, 0), 0);
        Check.same("from the end to the end", x.copy(0, 4, 1, 2, 0), 0);
        Check.same("no fault", x.fault(), 0);
        Check.faulty("from beyond", x, x.copy(0, 5, 1, 0, 0), Check.INDEX);
        Check.faulty("from -1", x, x.copy(0, -1, 1, 0, 0), Check.INDEX);
        Check.faulty("to beyond", x, x.copy(0, 0, 1, 3, 0), Check.INDEX);
        Check.faulty("to -1", x, x.copy(0, 0, 1, -1, 0), Check.INDEX);
        x = counted(0, 0);
        Check.same("of an empty row", x.copy(0, 0, 1, 0, 0), 0);
        Check.faulty("from beyond an empty row", x, x.copy(0, 1, 1, 0, 0), Check.INDEX);
        Check.faulty("to beyond an empty row", x, x.copy(0, 0, 1, 1, 0), Check.INDEX);
        Check.faulty("one of an empty row", x, x.copy(0, 0, 1, 0, 1), Check.INDEX);
    }

    /** "INDEX: i, j, n below 0 or beyond" */
    private static void copyBeyond() {
        int[][] wrong = {{0, 0, -1}, {0, 0, MIN}, {-1, 0, 1}, {MIN, 0, 1}, {0, -1, 1}, {0, MIN, 1}, {4, 0, 1},
            {3, 0, 2}, {0, 2, 1}, {0, 1, 2}, {0, 0, 3}, {0, 0, 5}, {0, 0, MAX}, {MAX, 0, 1}, {0, MAX, 1}, {1, 1, MAX},
            {MAX, MAX, MAX}, {MAX, MAX, 0}, {1, 0, MAX}, {0, 1, MAX}, {MIN, MIN, MIN}, {-1, -1, -1}, {4, 2, -1}};
        for (int[] w : wrong) {
            BreathSquare x = counted(4, 2);
            Check.faulty("copy " + w[0] + ", " + w[1] + ", " + w[2], x, x.copy(0, w[0], 1, w[1], w[2]), Check.INDEX);
            cells("the first one", x, 0, 1, 2, 3, 4);
            cells("the other one", x, 1, 0, 0);
        }
        BreathSquare x = counted(4, 2);
        Check.same("as many as the other one has", x.copy(0, 2, 1, 0, 2), 2);
        Check.faulty("back, one too many", x, x.copy(1, 0, 0, 0, 3), Check.INDEX);
        Check.same("back, to the end", x.copy(1, 0, 0, 2, 2), 2);
        Check.faulty("back, one beyond the end", x, x.copy(1, 0, 0, 3, 2), Check.INDEX);
    }

    /** "(perhaps the same) ..., as they were" */
    private static void copyOnToItself() {
        BreathSquare x = counted(5, 0);
        Check.same("on by one", x.copy(0, 0, 0, 1, 4), 4);
        cells("on by one", x, 0, 1, 1, 2, 3, 4);
        x = counted(5, 0);
        Check.same("back by one", x.copy(0, 1, 0, 0, 4), 4);
        cells("back by one", x, 0, 2, 3, 4, 5, 5);
        x = counted(5, 0);
        Check.same("where they are", x.copy(0, 0, 0, 0, 5), 5);
        cells("where they are", x, 0, 1, 2, 3, 4, 5);
        Check.faulty("on by one, all", x, x.copy(0, 0, 0, 1, 5), Check.INDEX);
        cells("on by one, all", x, 0, 1, 2, 3, 4, 5);
    }

    /** "FAULTS NULL (the first, the other), CAST (unlike SORTS), INDEX" */
    private static void copyFaults() {
        for (int sort = 0; sort < 3; sort++) {
            for (int other = 0; other < 3; other++) {
                BreathSquare x = new BreathSquare();
                x.sheet(0, sort, 1);
                x.sheet(1, other, 1);
                x.put(0, 0, 5);
                if (sort == other) {
                    Check.same("like sorts", x.copy(0, 0, 1, 0, 1), 1);
                    Check.same("copied", x.cell(1, 0, other), 5);
                    Check.faulty("INDEX", x, x.copy(0, 2, 1, 0, 0), Check.INDEX);
                } else {
                    Check.faulty("CAST", x, x.copy(0, 0, 1, 0, 1), Check.CAST);
                    Check.faulty("CAST of none", x, x.copy(0, 0, 1, 0, 0), Check.CAST);
                    Check.faulty("CAST ahead of INDEX", x, x.copy(0, -1, 1, -1, -1), Check.CAST);
                    Check.same("not copied", x.cell(1, 0, other), 0);
                }
                Check.faulty("NULL ahead of INDEX, the first", x, x.copy(2, -1, 0, -1, -1), Check.NULL);
                Check.faulty("NULL ahead of INDEX, the other", x, x.copy(0, -1, 2, -1, -1), Check.NULL);
                Check.faulty("NULL of none", x, x.copy(0, 0, 2, 0, 0), Check.NULL);
                Check.faulty("NULL, both", x, x.copy(2, 0, 3, 0, 0), Check.NULL);
                Check.faulty("NULL, the same", x, x.copy(3, 0, 3, 0, 0), Check.NULL);
                Check.same("UNKNOWN ahead of NULL", x.copy(2, 0, 4, 0, 0), UNKNOWN);
                Check.same("no fault", x.fault(), 0);
            }
        }
    }

    private static BreathSquare used() {
        BreathSquare x = Check.laid(SMALL);
        x.sheet(1, 1, 2);
        x.put(1, 1, 300);
        x.sheet(2, 2, 0);
        x.lift(1, 4);
        x.reading(1, 0, 24);
        x.tell(2);
        return x;
    }

    /** "it answers -10 less it ... and changes nothing" */
    private static void faultsChangeNothing() {
        for (int call = 0; call < 9; call++) {
            BreathSquare x = used();
            int[] answerAndFault = fault(x, call);
            Check.faulty("call " + call, x, answerAndFault[0], answerAndFault[1]);
            Check.same("call " + call, State.of(x), State.of(used()));
        }
        int[][] sheetCellSortFault = {{3, 0, 0, Check.NULL}, {1, 0, 0, Check.CAST}, {1, 2, 1, Check.INDEX}};
        for (int[] w : sheetCellSortFault) {
            BreathSquare x = used();
            Check.lost("cell", x, x.cell(w[0], w[1], w[2]), w[3]);
            Check.same("cell by fault " + w[3], State.of(x), State.of(used()));
        }
    }

    private static int[] fault(BreathSquare x, int call) {
        switch (call) {
            case 0:
                return new int[] {x.sheet(1, 2, -1), Check.SIZE};
            case 1:
                return new int[] {x.sheet(3, 0, -1), Check.SIZE};
            case 2:
                return new int[] {x.put(3, 0, 1), Check.NULL};
            case 3:
                return new int[] {x.put(1, 2, 1), Check.INDEX};
            case 4:
                return new int[] {x.put(2, 0, 1), Check.INDEX};
            case 5:
                return new int[] {x.copy(3, 0, 1, 0, 0), Check.NULL};
            case 6:
                return new int[] {x.copy(0, 0, 1, 0, 1), Check.CAST};
            case 7:
                return new int[] {x.copy(0, 0, 0, 1, 13), Check.INDEX};
            default:
                return new int[] {x.as(1, 2), Check.CAST};
        }
    }

    /** "STONE (1): GROUND. CLAY (2): what STONE's gives, and 100. FROSTY (3): ..." */
    private static void tellings() {
        BreathSquare x = Check.laid("q23;s0c0f0;s9c9f9");
        for (int c = 0; c < 6; c++) {
            x.lift(c, 99);
        }
        x.month(0, 9, 9);
        int[] due = {0, 100, 100, 9, 109, 118};
        for (int c = 0; c < 6; c++) {
            Check.same("tell " + c, x.tell(c), due[c]);
        }
        Check.same("stone 6", x.tell(6), UNKNOWN);
        Check.same("stone -1", x.tell(-1), UNKNOWN);
        Check.same("no square", new BreathSquare().tell(0), UNKNOWN);
    }

    /** "TROD by a lent body (4): its number; FROSTY ones have their own (5): 50." */
    private static void trodden() {
        BreathSquare x = Check.laid("q56;s0c0f0s0s0s0" + ";s9s9s9s9s9s9".repeat(3) + ";s0s0s0f0c0s0");
        int[][] due = {{0, 0}, {1, 1}, {2, 50}, {27, 50}, {28, 28}, {29, 29}};
        for (int[] d : due) {
            Check.same("tread " + d[0], x.tread(d[0]), d[1]);
        }
        Check.same("stone 30", x.tread(30), UNKNOWN);
        Check.same("stone -1", x.tread(-1), UNKNOWN);
        Check.same("no square", new BreathSquare().tread(0), UNKNOWN);
    }

    /** "TRACE (an int that wraps, 0 at first, becomes 31 times it and the number) as they begin" */
    private static void traceWraps() {
        BreathSquare x = Check.laid("q22;s1c2;f3s4");
        int[] due = {1, 32, 993, 30784, 954305, 29583456, 917087137, -1635069824, 852443009};
        Check.same("at first", x.trace(), 0);
        for (int k = 0; k < due.length; k++) {
            x.tell(0);
            Check.same("told " + (k + 1) + " times", x.trace(), due[k]);
        }
        BreathSquare y = Check.laid("q22;s1c2;f3s4");
        y.tell(2);
        Check.same("a frosty one: 3, 2, 1, 1", y.trace(), ((3 * 31 + 2) * 31 + 1) * 31 + 1);
        BreathSquare z = Check.laid("q22;s1c2;f3s4");
        z.tell(1);
        Check.same("a clay one: 2, 1", z.trace(), 2 * 31 + 1);
        z.tread(1);
        Check.same("trod: 4", z.trace(), 63 * 31 + 4);
        z.tread(2);
        Check.same("trod by its own: 5", z.trace(), 1957 * 31 + 5);
    }

    private static void traceStays() {
        BreathSquare x = Check.laid("q22;s1c2;f3s4");
        x.tread(0);
        x.tell(4);
        x.tread(-1);
        x.as(2, 1);
        x.kinds(2);
        x.trace();
        Check.same("refused and other calls leave nothing", x.trace(), 4);
    }

    /** as: "1 ... CAST: it is none (each is a STONE, too; a FROSTY one is CLAY)" */
    private static void casts() {
        BreathSquare x = Check.laid("q22;s1c2;f3s4");
        int[][] stoneKindFault = {{0, 0, 0}, {0, 1, 2}, {0, 2, 2}, {1, 0, 0}, {1, 1, 0}, {1, 2, 2}, {2, 0, 0},
            {2, 1, 0}, {2, 2, 0}, {3, 0, 0}, {3, 1, 2}};
        for (int[] s : stoneKindFault) {
            Check.same("stone " + s[0] + " as " + s[1], x.as(s[0], s[1]), s[2] == 0 ? 1 : -12);
            Check.same("stone " + s[0] + " as " + s[1] + " told", x.fault(), s[2]);
        }
        for (int kind : new int[] {-1, 3, MIN, MAX}) {
            Check.same("kind " + kind, x.as(0, kind), OUTSIDE);
            Check.same("kind " + kind + " told", x.fault(), 0);
        }
        Check.same("stone 4", x.as(4, 0), UNKNOWN);
        Check.same("stone -1, kind 3", x.as(-1, 3), UNKNOWN);
        Check.same("no square", new BreathSquare().as(0, 0), UNKNOWN);
    }

    /** "The FAULT of the latest call that names one: 0: it came to none, or was refused (0 ahead of any)." */
    private static void latestFault() {
        BreathSquare x = used();
        for (int call = 0; call < 6; call++) {
            Check.faulty("a fault", x, x.as(0, 2), Check.CAST);
            long taken = call == 0 ? x.square(0, 0, 0, 13) : call == 1 ? x.sheet(2, 2, 0) : call == 2 ? x.put(1, 0, 1)
                    : call == 3 ? x.cell(1, 0, 1) : call == 4 ? x.copy(1, 0, 1, 0, 1) : x.as(0, 0);
            Check.that("taken " + call, taken > 0);
            Check.same("came to none: " + call, x.fault(), 0);
        }
        Check.faulty("a fault", x, x.as(0, 2), Check.CAST);
        Check.same("a text that is not taken", x.square(0, 0, 0, 1), -101);
        Check.same("came to none", x.fault(), 0);
        Check.faulty("a fault", x, x.as(0, 2), Check.CAST);
        Check.lost("another one", x, x.cell(3, 0, 0), Check.NULL);
        Check.same("told twice", x.fault(), Check.NULL);
        Check.same("a call that names none", x.lose(1), 1);
        Check.same("leaves it", x.fault(), Check.NULL);
        Check.same("refused, a call that names none", x.lose(4), UNKNOWN);
        Check.same("leaves it, too", x.fault(), Check.NULL);
    }

    /** "How many: 0 STONES, 1 WIDE, 2 READINGS. OUTSIDE." */
    private static void many() {
        BreathSquare x = Check.laid(Check.alike(5, 6, "s0"));
        for (int k = 0; k < 11; k++) {
            x.reading(0, 0, 0);
        }
        int[] most = {30, 6, 10};
        BreathSquare y = Check.laid(SMALL);
        int[] least = {4, 2, 0};
        for (int what = 0; what < 3; what++) {
            Check.same("most of " + what, x.many(what), most[what]);
            Check.same("least of " + what, y.many(what), least[what]);
            Check.same("none of " + what, new BreathSquare().many(what), 0);
        }
        for (int what : new int[] {-1, 3, MIN, MAX}) {
            Check.same("what " + what, x.many(what), OUTSIDE);
        }
    }
}
