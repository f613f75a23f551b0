/** The document's sentences on texts, stones, months and heights (promises 1 to 7) at their boundaries. */
public final class EdgesOfSquareTest {
    private static final int UNKNOWN = BreathSquare.UNKNOWN;
    private static final int OUTSIDE = BreathSquare.OUTSIDE;
    private static final int STATE = BreathSquare.STATE;
    private static final int MIN = Integer.MIN_VALUE;
    private static final int MAX = Integer.MAX_VALUE;
    private static final String SMALL = "q22;s1c2;f3s4";
    private static final String LARGE = "q56;s0s1s2s3s4s5;c6c7c8c9c0c1;f2f3f4f5f6f7;s8s9s0s1s2s3;c4f5s6c7f8s9";

    public static void main(String[] args) {
        aNewObject();
        the512thCall();
        everyCodeAtEveryPlace();
        highAndWide();
        rowsTooManyOrTooFew();
        aTextThatEndsTooSoon();
        theEarlierFault();
        codesAreCutBySortAlone();
        theLargestText();
        anEmptyText();
        lengthBelow0();
        notAllCellsAreThere();
        orderOfFaults();
        faultsChangeNothing();
        aTextThatIsTaken();
        aTextThatIsNotTaken();
        stonesByNumber();
        months();
        liftings();
        heights();
        rises();
        Check.end("EdgesOfSquareTest");
    }

    /** "No SQUARE (no STONES), SHEETS have nothing." */
    private static void aNewObject() {
        BreathSquare x = new BreathSquare();
        Check.same("fault ahead of any", x.fault(), 0);
        Check.same("trace at first", x.trace(), 0);
        Check.same("stones", x.many(0), 0);
        Check.same("wide", x.many(1), 0);
        Check.same("readings", x.many(2), 0);
        Check.same("no stone 0", x.ofStone(0, 0), UNKNOWN);
        Check.same("no square", x.month(0, 0, 0), STATE);
        for (int k = 0; k < 4; k++) {
            Check.faulty("square of nothing", x, x.square(k, 0, 0, 0), Check.NULL);
            Check.faulty("put into nothing", x, x.put(k, 0, 0), Check.NULL);
            for (int sort = 0; sort < 3; sort++) {
                Check.lost("cell of nothing", x, x.cell(k, 0, sort), Check.NULL);
            }
            Check.faulty("copy of nothing", x, x.copy(k, 0, k, 0, 0), Check.NULL);
            Check.same("lose nothing", x.lose(k), 0);
        }
    }

    /** "An object is used for at most 512 calls after it has been made" */
    private static void the512thCall() {
        BreathSquare x = new BreathSquare();
        x.sheet(0, 2, 80);
        for (int call = 2; call <= 511; call++) {
            Check.same("call " + call, x.put(0, call % 80, call), 1);
        }
        Check.same("call 512", x.cell(0, 511 % 80, 2), 511);
    }

    /** "the place (from 0 on) of the first code with which no TEXT goes on"; "q 113, s 115, c 99, f 102, ; 59" */
    private static void everyCodeAtEveryPlace() {
        for (int place = 0; place < SMALL.length(); place++) {
            for (int least = -128; least < 128; least += 64) {
                BreathSquare x = new BreathSquare();
                Check.write(x, 2, 0, 0, SMALL);
                for (int code = least; code < least + 64; code++) {
                    Check.same("put", x.put(2, place, code), 1);
                    Check.same("code " + code + " at " + place, x.square(2, 0, 0, 13), dueFor(place, code));
                }
            }
        }
    }

    /** What SMALL answers with another code: a higher square lacks rows, a wider one has ; for a letter. */
    private static int dueFor(int place, int code) {
        switch (place) {
            case 0:
                return code == 113 ? 4 : -100;
            case 1:
                return code == 50 ? 4 : code == 51 || code == 52 || code == 53 ? -113 : -101;
            case 2:
                return code == 50 ? 4 : code >= 51 && code <= 54 ? -108 : -102;
            case 3: case 8:
                return code == 59 ? 4 : -100 - place;
            case 4: case 6: case 9: case 11:
                return code == 115 || code == 99 || code == 102 ? 4 : -100 - place;
            default:
                return code >= 48 && code <= 57 ? 4 : -100 - place;
        }
    }

    /** "a digit 2 .. 5 (HIGH), a digit 2 .. 6 (WIDE)" */
    private static void highAndWide() {
        for (int high = 0; high <= 9; high++) {
            for (int wide = 0; wide <= 9; wide++) {
                BreathSquare x = new BreathSquare();
                String text = Check.alike(high, wide, "s7");
                int due = high < 2 || high > 5 ? -101 : wide < 2 || wide > 6 ? -102 : high * wide;
                String cut = text.substring(0, Math.min(80, text.length()));
                Check.same("high " + high + ", wide " + wide, Check.lay(x, cut), due);
                Check.same("stones", x.many(0), Math.max(0, due));
                Check.same("wide", x.many(1), due > 0 ? wide : 0);
            }
        }
    }

    /** "then HIGH times: ; and for each of WIDE STONES" */
    private static void rowsTooManyOrTooFew() {
        for (int high = 2; high <= 5; high++) {
            for (int wide = 2; wide <= 6; wide++) {
                String whole = Check.alike(high, wide, "c3");
                int row = 1 + 2 * wide;
                int n = whole.length();
                Check.same("whole", n, 3 + high * row);
                Check.same("a row too few", lay(whole.substring(0, n - row)), -100 - (n - row));
                Check.same("a row too many", lay(whole + ";"), -100 - n);
                Check.same("a stone too few", lay(whole.substring(0, n - 2)), -100 - (n - 2));
                Check.same("a stone too many", lay(whole + "c3"), -100 - n);
                Check.same("a digit too few", lay(whole.substring(0, n - 1)), -100 - (n - 1));
                Check.same("a digit too many", lay(whole + "3"), -100 - n);
                Check.same("the first row a stone too short", lay(whole.substring(0, 3 + row - 2) + whole.substring(3 + row)),
                        -100 - (3 + row - 2));
                Check.same("the first row a stone too long", lay(whole.substring(0, 3 + row) + "c3" + whole.substring(3 + row)),
                        -100 - (3 + row));
                Check.same("no ; ahead of the first row", lay(whole.substring(0, 3) + whole.substring(4)), -103);
                Check.same("; twice", lay(whole.substring(0, 4) + whole.substring(3)), -104);
            }
        }
    }

    private static int lay(String text) {
        return Check.lay(new BreathSquare(), text.substring(0, Math.min(80, text.length())));
    }

    /** "how many codes there are, if it just ends too soon" */
    private static void aTextThatEndsTooSoon() {
        BreathSquare x = new BreathSquare();
        Check.write(x, 1, 2, 12, LARGE);
        for (int n = 0; n < 68; n++) {
            Check.same("the first " + n, x.square(1, 2, 12, n), -100 - n);
            Check.same("no fault of the machine", x.fault(), 0);
        }
        Check.same("nothing laid", x.many(0), 0);
        Check.same("all 68", x.square(1, 2, 12, 68), 30);
    }

    private static void theEarlierFault() {
        Check.same("a wrong code, and too soon behind it", lay("q22;s1x"), -106);
        Check.same("a wrong code at the end, too soon", lay("q22;s1c"), -107);
        Check.same("two wrong codes", lay("q22;x1x2;f3s4"), -104);
        Check.same("wrong high and wide", lay("q69"), -101);
        Check.same("a wrong code, and too long", lay("q22;s1c2;f3sx;"), -112);
        Check.same("q alone", lay("q"), -101);
        Check.same("a wrong code alone", lay("x"), -100);
    }

    /** "taken as a row of a SORT"; "what comes to a cell of it is cut to its SORT" */
    private static void codesAreCutBySortAlone() {
        int[][] putAndDue = {{113, 4, 4, 4}, {113 + 256, 4, -100, -100}, {113 - 256, 4, -100, -100},
            {113 + 65536, 4, 4, -100}, {113 - 65536, 4, 4, -100}, {113 + (1 << 31), 4, 4, -100}};
        for (int[] due : putAndDue) {
            for (int sort = 0; sort < 3; sort++) {
                BreathSquare x = new BreathSquare();
                Check.write(x, 0, sort, 0, SMALL);
                x.put(0, 0, due[0]);
                Check.same(due[0] + " in sort " + sort, x.square(0, sort, 0, 13), due[1 + sort]);
            }
        }
        BreathSquare x = new BreathSquare();
        Check.write(x, 0, 2, 0, SMALL);
        int[][] far = {{1, 50 + 256, -101}, {2, 50 + 65536, -102}, {3, 59 - 256, -103}, {4, 115 + 256, -104},
            {5, 48 + 65536, -105}, {5, MIN, -105}, {5, MAX, -105}, {4, MIN, -104}, {3, MAX, -103}, {1, MIN, -101}};
        for (int[] f : far) {
            int before = (int) x.cell(0, f[0], 2);
            x.put(0, f[0], f[1]);
            Check.same(f[1] + " at " + f[0], x.square(0, 2, 0, 13), f[2]);
            x.put(0, f[0], before);
        }
        Check.same("all codes as before", x.square(0, 2, 0, 13), 4);
    }

    /** The largest text has 68 codes; a sheet has 80 cells. */
    private static void theLargestText() {
        BreathSquare x = new BreathSquare();
        Check.same("codes", LARGE.length(), 68);
        Check.write(x, 3, 1, 12, LARGE);
        Check.same("to the last cell", x.square(3, 1, 12, 68), 30);
        Check.same("the last stone", x.ofStone(29, 1), 9);
        Check.faulty("one cell on", x, x.square(3, 1, 13, 68), Check.INDEX);
        Check.faulty("one cell more", x, x.square(3, 1, 12, 69), Check.INDEX);
        Check.same("one cell on, one less", x.square(3, 1, 13, 67), -100);
        Check.same("one cell less", x.square(3, 1, 12, 67), -167);
        Check.write(x, 3, 1, 11, LARGE + "s");
        Check.same("one code more", x.square(3, 1, 11, 69), -168);
        Check.same("from a cell of 0 on", x.square(3, 1, 10, 70), -100);
    }

    /** "INDEX (of cells from i on also where i is not 0 .. how many there are, if none of them is taken, too)" */
    private static void anEmptyText() {
        BreathSquare x = new BreathSquare();
        Check.write(x, 0, 0, 0, SMALL);
        Check.same("none from 0 on", x.square(0, 0, 0, 0), -100);
        Check.same("none from the last on", x.square(0, 0, 12, 0), -100);
        Check.same("none from the end on", x.square(0, 0, 13, 0), -100);
        Check.same("no fault", x.fault(), 0);
        Check.faulty("none from beyond on", x, x.square(0, 0, 14, 0), Check.INDEX);
        Check.faulty("none from -1 on", x, x.square(0, 0, -1, 0), Check.INDEX);
        Check.faulty("none from far off", x, x.square(0, 0, MAX, 0), Check.INDEX);
        Check.faulty("none from far off", x, x.square(0, 0, MIN, 0), Check.INDEX);
        x.sheet(1, 2, 0);
        Check.same("none of an empty row", x.square(1, 2, 0, 0), -100);
        Check.faulty("none beyond an empty row", x, x.square(1, 2, 1, 0), Check.INDEX);
        Check.faulty("one of an empty row", x, x.square(1, 2, 0, 1), Check.INDEX);
    }

    /** "SIZE: n is below 0" */
    private static void lengthBelow0() {
        BreathSquare x = new BreathSquare();
        Check.write(x, 0, 0, 0, SMALL);
        Check.faulty("n -1", x, x.square(0, 0, 0, -1), Check.SIZE);
        Check.faulty("n least", x, x.square(0, 0, 0, MIN), Check.SIZE);
        Check.same("n 0", x.square(0, 0, 0, 0), -100);
        Check.same("n 0: no fault", x.fault(), 0);
    }

    /** "INDEX: not all cells are there" */
    private static void notAllCellsAreThere() {
        BreathSquare x = new BreathSquare();
        Check.write(x, 0, 0, 0, SMALL);
        Check.same("all cells", x.square(0, 0, 0, 13), 4);
        Check.faulty("one more", x, x.square(0, 0, 0, 14), Check.INDEX);
        Check.faulty("from 1 on", x, x.square(0, 0, 1, 13), Check.INDEX);
        Check.faulty("from -1 on", x, x.square(0, 0, -1, 13), Check.INDEX);
        Check.faulty("one from -1 on", x, x.square(0, 0, -1, 1), Check.INDEX);
        Check.same("the last one", x.square(0, 0, 12, 1), -100);
        Check.faulty("one from the end on", x, x.square(0, 0, 13, 1), Check.INDEX);
        Check.faulty("i and n that wrap to 0", x, x.square(0, 0, 1, MAX), Check.INDEX);
        Check.faulty("i and n that wrap", x, x.square(0, 0, MAX, MAX), Check.INDEX);
        Check.faulty("i and n that give 13", x, x.square(0, 0, MIN + 14, MAX), Check.INDEX);
        Check.same("the square stands", x.many(0), 4);
    }

    /** "FAULTS CAST (nothing is no CAST), NULL, SIZE, INDEX"; "Of a call the first that is come to" */
    private static void orderOfFaults() {
        BreathSquare x = new BreathSquare();
        Check.write(x, 0, 1, 0, SMALL);
        Check.faulty("CAST ahead of SIZE", x, x.square(0, 0, -1, -1), Check.CAST);
        Check.faulty("CAST ahead of INDEX", x, x.square(0, 2, 14, 1), Check.CAST);
        Check.faulty("CAST of a text that is right", x, x.square(0, 0, 0, 13), Check.CAST);
        Check.faulty("SIZE ahead of INDEX", x, x.square(0, 1, -1, -1), Check.SIZE);
        Check.faulty("SIZE ahead of INDEX", x, x.square(0, 1, 14, -1), Check.SIZE);
        Check.faulty("INDEX ahead of a wrong text", x, x.square(0, 1, 1, 13), Check.INDEX);
        for (int sort = 0; sort < 3; sort++) {
            Check.faulty("NULL ahead of SIZE", x, x.square(1, sort, -1, -1), Check.NULL);
            Check.faulty("NULL ahead of INDEX", x, x.square(1, sort, -1, 1), Check.NULL);
        }
        Check.same("taken", x.square(0, 1, 0, 13), 4);
        Check.same("no fault", x.fault(), 0);
    }

    private static BreathSquare used() {
        BreathSquare x = Check.laid(SMALL);
        x.sheet(1, 1, 2);
        for (int m = 0; m < 12; m++) {
            x.month(m, 9 - m % 10, m % 10);
        }
        for (int c = 0; c < 4; c++) {
            x.lift(c, 10 + c);
            x.reading(c, 2 * c, x.height(c, 2 * c));
            x.tell(c);
        }
        return x;
    }

    private static void faultsChangeNothing() {
        int[][] wrong = {{2, 0, 0, 13, Check.NULL}, {1, 0, 0, 2, Check.CAST}, {0, 0, 0, -1, Check.SIZE},
            {0, 0, 0, 14, Check.INDEX}, {0, 0, -1, 0, Check.INDEX}};
        for (int[] w : wrong) {
            BreathSquare x = used();
            Check.faulty("square", x, x.square(w[0], w[1], w[2], w[3]), w[4]);
            Check.same("square by fault " + w[4], State.of(x), State.of(used()));
        }
    }

    /** "A TEXT that is taken makes all anew: WET, FROST of all MONTHS 0, nothing LIFTED."; "a TEXT leaves none" */
    private static void aTextThatIsTaken() {
        BreathSquare x = used();
        Check.same("the same text again", x.square(0, 0, 0, 13), 4);
        for (int c = 0; c < 4; c++) {
            Check.same("nothing lifted", x.ofStone(c, 2), 0);
        }
        Check.same("no readings", x.many(2), 0);
        Check.same("none to take back", x.back(1), OUTSIDE);
        for (int m = 0; m < 12; m++) {
            Check.same("heights of a dry month", x.height(2, m), 30);
            Check.same("wet, frost", x.month(m, 9, 9), 0);
        }
        x.reading(0, 0, 10);
        for (int c = 0; c < 4; c++) {
            x.lift(c, 99);
        }
        Check.same("a larger one", Check.lay(x, LARGE), 30);
        for (int c = 0; c < 30; c++) {
            Check.same("of a larger one nothing lifted", x.ofStone(c, 2), 0);
        }
        Check.same("of a larger one no readings", x.many(2), 0);
        Check.same("of a larger one months", x.month(11, 0, 0), 0);
        x.lift(29, 9);
        x.lift(3, 9);
        Check.same("a smaller one", Check.lay(x, SMALL), 4);
        Check.same("of a smaller one nothing lifted", x.ofStone(3, 2), 0);
        Check.same("its last stone", x.ofStone(3, 1), 4);
        Check.same("one more", x.ofStone(4, 1), UNKNOWN);
    }

    private static void aTextThatIsNotTaken() {
        for (int n = 0; n < 13; n++) {
            BreathSquare x = used();
            Check.same("too soon", x.square(0, 0, 0, n), -100 - n);
            Check.same("too soon: fault", x.fault(), 0);
            Check.same("a text of " + n, State.of(x), State.of(used()));
        }
        BreathSquare x = used();
        Check.same("wrong from the start", x.square(1, 1, 0, 2), -100);
        Check.same("wrong from the start", State.of(x), State.of(used()));
    }

    /** "numbered from 0 on by rows from above, in a row from the left"; ofStone: "UNKNOWN; OUTSIDE." */
    private static void stonesByNumber() {
        BreathSquare x = Check.laid(LARGE);
        int[][] due = {{0, 0, 0}, {5, 0, 5}, {6, 1, 6}, {11, 1, 1}, {12, 2, 2}, {17, 2, 7}, {18, 0, 8}, {23, 0, 3},
            {24, 1, 4}, {25, 2, 5}, {28, 2, 8}, {29, 0, 9}};
        for (int[] d : due) {
            Check.same("kind of " + d[0], x.ofStone(d[0], 0), d[1]);
            Check.same("ground of " + d[0], x.ofStone(d[0], 1), d[2]);
        }
        Check.same("stone 30", x.ofStone(30, 0), UNKNOWN);
        Check.same("stone -1", x.ofStone(-1, 0), UNKNOWN);
        Check.same("what 2", x.ofStone(29, 2), 0);
        Check.same("what 3", x.ofStone(29, 3), OUTSIDE);
        Check.same("what -1", x.ofStone(29, -1), OUTSIDE);
    }

    /** "MONTHS 0 .. 11, each with WET (0 .. 9) and FROST (0 .. 9)"; month: "10 times what WET was, and FROST" */
    private static void months() {
        BreathSquare x = Check.laid(SMALL);
        for (int m : new int[] {0, 11}) {
            Check.same("at first", x.month(m, 9, 0), 0);
            Check.same("wet alone", x.month(m, 0, 9), 90);
            Check.same("frost alone", x.month(m, 9, 9), 9);
            Check.same("both", x.month(m, 0, 0), 99);
            Check.same("none", x.month(m, 1, 2), 0);
            int[][] wrong = {{-1, 0}, {10, 0}, {0, -1}, {0, 10}, {MIN, 0}, {0, MAX}};
            for (int[] w : wrong) {
                Check.same("wrong", x.month(m, w[0], w[1]), OUTSIDE);
            }
            Check.same("as before", x.month(m, 1, 2), 12);
        }
        Check.same("month -1", x.month(-1, 0, 0), UNKNOWN);
        Check.same("month 12", x.month(12, 0, 0), UNKNOWN);
        Check.same("others stay", x.month(1, 0, 0) + x.month(10, 0, 0), 0);
    }

    /** "LIFTED (0 .. 99)"; lift: "in all (0 .. 99), in place of what it was" */
    private static void liftings() {
        BreathSquare x = Check.laid(LARGE);
        for (int c : new int[] {0, 29}) {
            Check.same("99", x.lift(c, 99), 0);
            Check.same("100", x.lift(c, 100), OUTSIDE);
            Check.same("99 stays", x.ofStone(c, 2), 99);
            Check.same("99 again: in all", x.lift(c, 99), 99);
            Check.same("0", x.lift(c, 0), 99);
            Check.same("-1", x.lift(c, -1), OUTSIDE);
            Check.same("0 stays", x.lift(c, 1), 0);
            Check.same("1", x.ofStone(c, 2), 1);
        }
        Check.same("stone 30", x.lift(30, 0), UNKNOWN);
        Check.same("stone -1", x.lift(-1, 0), UNKNOWN);
    }

    /** "of a STONE ten times GROUND, ...; of a CLAY one WET times 3 more; of a FROSTY one FROST times 2 more" */
    private static void heights() {
        BreathSquare x = Check.laid("q23;s0c0f0;s9c9f9");
        x.month(11, 9, 9);
        x.month(5, 9, 0);
        x.month(6, 0, 9);
        for (int c = 3; c < 6; c++) {
            x.lift(c, 99);
        }
        int[][] due = {{0, 0, 0, 189, 189, 189}, {0, 27, 45, 189, 216, 234}, {0, 27, 27, 189, 216, 216},
            {0, 0, 18, 189, 189, 207}};
        int[] months = {0, 11, 5, 6};
        for (int k = 0; k < months.length; k++) {
            for (int c = 0; c < 6; c++) {
                Check.same("height of " + c + " in " + months[k], x.height(c, months[k]), due[k][c]);
            }
        }
        Check.same("stone 6", x.height(6, 0), UNKNOWN);
        Check.same("stone -1", x.height(-1, 0), UNKNOWN);
        Check.same("month 12", x.height(5, 12), UNKNOWN);
        Check.same("month -1", x.height(0, -1), UNKNOWN);
    }

    /** "the MONTH in which a STONE is the highest, the least; of several the first" */
    private static void rises() {
        for (int only = 0; only < 12; only++) {
            BreathSquare x = Check.laid(SMALL);
            x.month(only, 0, 1);
            Check.same("highest in one month", x.rises(2, 0), only);
            Check.same("lowest in the others", x.rises(2, 1), only == 0 ? 1 : 0);
            for (int m = 0; m < 12; m++) {
                x.month(m, m == only ? 8 : 9, 0);
            }
            Check.same("lowest in one month", x.rises(1, 1), only);
            Check.same("highest in the others", x.rises(1, 0), only == 0 ? 1 : 0);
            Check.same("a stone is always alike", x.rises(0, 0) + x.rises(0, 1), 0);
        }
        BreathSquare x = Check.laid(SMALL);
        x.month(10, 2, 0);
        x.month(11, 0, 3);
        Check.same("by wet and by frost alike", x.rises(2, 0), 10);
        Check.same("clay by wet alone", x.rises(1, 0), 10);
        x.month(11, 0, 4);
        Check.same("by frost more", x.rises(2, 0), 11);
        Check.same("what 2", x.rises(3, 2), OUTSIDE);
        Check.same("what -1", x.rises(3, -1), OUTSIDE);
        Check.same("stone 4", x.rises(4, 0), UNKNOWN);
    }
}
