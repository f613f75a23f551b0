/** A market square whose stones swell by wet and by frost. README.md says how to use it. */
public final class BreathSquare {
    public static final int UNKNOWN = -1, OUTSIDE = -2, STATE = -3, FULL = -4, NONE = -9;
    public static final long LOST = Long.MIN_VALUE;

    private static final int NULL = 1, CAST = 2, INDEX = 3, SIZE = 4;
    private static final int MONTHS = 12, MOST_STONES = 30, SIDES = 4, KINDS = 3;
    private static final int SHEETS = 4, SORTS = 3, MOST_CELLS = 80, MOST_READINGS = 10;
    private static final int MOST_LIFTED = 99, MOST_APART = 999, MOST_PICKED = 9, MOST_NIGHTS = 500;
    /** Above every step and every height, lifted ones too. */
    private static final int ABOVE_ALL = 1000000;

    private final Trace traces = new Trace();
    private final Paving paving = new Paving();
    private final Ways ways = new Ways(paving);
    private final Places places = new Places(paving);
    private final Water water = new Water(paving);
    private final Mason mason = new Mason(paving);
    private final Readings readings = new Readings(paving);
    private final Sheet[] sheets = {new Sheet(), new Sheet(), new Sheet(), new Sheet()};
    private int latestFault;

    public BreathSquare() {
    }

    // ---- 1 the square

    public int square(int sheet, int sort, int i, int n) {
        latestFault = 0;
        if (!isSheet(sheet)) {
            return UNKNOWN;
        }
        if (!isSort(sort)) {
            return OUTSIDE;
        }
        Sheet text = sheets[sheet];
        int wrong = text.faultAs(sort);
        if (wrong != 0) {
            return failed(wrong);
        }
        if (n < 0) {
            return failed(SIZE);
        }
        if (!text.hasCells(i, n)) {
            return failed(INDEX);
        }
        int place = Paving.firstFault(text, i, n);
        if (place != NONE) {
            return -100 - place;
        }
        paving.lay(text, i);
        readings.forgetAll();
        return paving.stones();
    }

    public int ofStone(int c, int what) {
        if (!paving.has(c)) {
            return UNKNOWN;
        }
        switch (what) {
            case 0:
                return paving.kindOf[c];
            case 1:
                return paving.ground[c];
            case 2:
                return paving.lifted[c];
            default:
                return OUTSIDE;
        }
    }

    public int month(int m, int wet, int frost) {
        if (!isMonth(m)) {
            return UNKNOWN;
        }
        if (!isWithin(wet, 0, 9) || !isWithin(frost, 0, 9)) {
            return OUTSIDE;
        }
        if (paving.isBare()) {
            return STATE;
        }
        int before = 10 * paving.wet[m] + paving.frost[m];
        paving.wet[m] = wet;
        paving.frost[m] = frost;
        return before;
    }

    public int lift(int c, int v) {
        if (!paving.has(c)) {
            return UNKNOWN;
        }
        if (!isWithin(v, 0, MOST_LIFTED)) {
            return OUTSIDE;
        }
        int before = paving.lifted[c];
        paving.lifted[c] = v;
        return before;
    }

    public int height(int c, int m) {
        if (!paving.has(c) || !isMonth(m)) {
            return UNKNOWN;
        }
        return paving.heightOf(c, m);
    }

    public int rises(int c, int what) {
        if (!paving.has(c)) {
            return UNKNOWN;
        }
        if (!isWithin(what, 0, 1)) {
            return OUTSIDE;
        }
        return what == 0 ? paving.highestMonth(c) : paving.lowestMonth(c);
    }

    // ---- 2 ways

    public int way(int from, int to, int m, int step, int q) {
        if (!paving.has(from) || !paving.has(to) || !isMonth(m) || q < -1) {
            return UNKNOWN;
        }
        if (!isApart(step)) {
            return OUTSIDE;
        }
        ways.measure(m, m);
        ways.countStepsTo(to, step);
        return q == -1 ? ways.steps[from] : ways.stoneBehind(from, step, q);
    }

    public int holds(int from, int to, int first, int last, int step) {
        if (!paving.has(from) || !paving.has(to)) {
            return UNKNOWN;
        }
        if (!isMonth(first) || !isMonth(last) || last < first) {
            return UNKNOWN;
        }
        if (!isApart(step)) {
            return OUTSIDE;
        }
        ways.measure(first, last);
        ways.countStepsTo(to, step);
        return ways.steps[from];
    }

    public int leastStep(int from, int to, int m) {
        if (!paving.has(from) || !paving.has(to) || !isMonth(m)) {
            return UNKNOWN;
        }
        ways.measure(m, m);
        return ways.leastBetween(from, to);
    }

    // ---- 3 stalls, ovals

    public int wedges(int c, int m) {
        if (!paving.hasStall(c) || !isMonth(m)) {
            return UNKNOWN;
        }
        places.measure(m);
        return places.wedgesAt(c);
    }

    public int best(int m, int what) {
        int refusal = refusalOf(m, isWithin(what, 0, 1));
        if (refusal != 0) {
            return refusal;
        }
        places.measure(m);
        int place = places.bestPlace();
        return what == 0 ? place : places.wedgesAt(place);
    }

    public int two(int m, int what) {
        int refusal = refusalOf(m, isWithin(what, 0, 2));
        if (refusal != 0) {
            return refusal;
        }
        places.measure(m);
        places.findPair();
        if (what == 2) {
            return places.together;
        }
        return what == 0 ? places.first : places.second;
    }

    public int oval(int m, int apart, int what) {
        int refusal = refusalOf(m, isApart(apart) && isWithin(what, 0, 2));
        if (refusal != 0) {
            return refusal;
        }
        places.measure(m);
        places.findOval(apart);
        if (what == 0) {
            return places.together;
        }
        return what == 1 ? places.first : places.second;
    }

    // ---- 4 water, statues

    public int depth(int c, int m) {
        if (!paving.has(c) || !isMonth(m)) {
            return UNKNOWN;
        }
        water.measure(m);
        water.settle();
        return water.depthAt(c);
    }

    public int pool(int m) {
        int refusal = refusalOf(m, true);
        if (refusal != 0) {
            return refusal;
        }
        water.measure(m);
        return water.allDepths();
    }

    public int drain(int m, int by, int what) {
        int refusal = refusalOf(m, isWithin(by, 1, MOST_LIFTED) && isWithin(what, 0, 1));
        if (refusal != 0) {
            return refusal;
        }
        water.measure(m);
        int stone = water.bestLifted(by);
        return what == 0 ? stone : water.poolIfLifted(stone, by);
    }

    public int statue(int c, int other, int apart) {
        if (!paving.has(c) || !paving.has(other)) {
            return UNKNOWN;
        }
        if (!isApart(apart)) {
            return OUTSIDE;
        }
        if (!paving.areBeside(c, other)) {
            return STATE;
        }
        for (int m = 0; m < MONTHS; m++) {
            if (Math.abs(paving.heightOf(c, m) - paving.heightOf(other, m)) > apart) {
                return m;
            }
        }
        return NONE;
    }

    // ---- 5 masons, readings

    public int nights(int m, int k, int apart) {
        int refusal = refusalOf(m, isWithin(k, 1, MOST_PICKED) && isApart(apart));
        return refusal != 0 ? refusal : mason.nightsTill(m, k, apart);
    }

    public int reading(int c, int m, int height) {
        if (!paving.has(c) || !isMonth(m)) {
            return UNKNOWN;
        }
        if (!isApart(height)) {
            return OUTSIDE;
        }
        return readings.isFull() ? FULL : readings.take(c, m, height);
    }

    public int back(int k) {
        if (!isWithin(k, 0, readings.count)) {
            return OUTSIDE;
        }
        return readings.takeBack(k);
    }

    public int kinds(int c) {
        return paving.has(c) ? readings.kindsOf(c) : UNKNOWN;
    }

    // ---- 6 sheets, parts

    public int sheet(int k, int sort, int n) {
        latestFault = 0;
        if (!isSheet(k)) {
            return UNKNOWN;
        }
        if (!isSort(sort) || n > MOST_CELLS) {
            return OUTSIDE;
        }
        if (n < 0) {
            return failed(SIZE);
        }
        sheets[k].renew(sort, n);
        return 1;
    }

    public int lose(int k) {
        if (!isSheet(k)) {
            return UNKNOWN;
        }
        return sheets[k].clear() ? 1 : 0;
    }

    public int put(int k, int i, int v) {
        latestFault = 0;
        if (!isSheet(k)) {
            return UNKNOWN;
        }
        Sheet row = sheets[k];
        if (row.isNothing()) {
            return failed(NULL);
        }
        if (!row.hasCell(i)) {
            return failed(INDEX);
        }
        row.write(i, v);
        return 1;
    }

    public long cell(int k, int i, int sort) {
        latestFault = 0;
        if (!isSheet(k) || !isSort(sort)) {
            return LOST;
        }
        Sheet row = sheets[k];
        int wrong = row.faultAs(sort);
        if (wrong == 0 && !row.hasCell(i)) {
            wrong = INDEX;
        }
        latestFault = wrong;
        return wrong != 0 ? LOST : row.cells[i];
    }

    public int copy(int k, int i, int other, int j, int n) {
        latestFault = 0;
        if (!isSheet(k) || !isSheet(other)) {
            return UNKNOWN;
        }
        Sheet source = sheets[k];
        Sheet target = sheets[other];
        if (source.isNothing() || target.isNothing()) {
            return failed(NULL);
        }
        if (source.sort != target.sort) {
            return failed(CAST);
        }
        if (n < 0 || !source.hasCells(i, n) || !target.hasCells(j, n)) {
            return failed(INDEX);
        }
        System.arraycopy(source.cells, i, target.cells, j, n);
        return n;
    }

    public int tell(int c) {
        return paving.has(c) ? paving.bodyOf(c).telling(paving.ground[c], traces) : UNKNOWN;
    }

    public int tread(int c) {
        return paving.has(c) ? paving.bodyOf(c).trodden(c, traces) : UNKNOWN;
    }

    public int as(int c, int kind) {
        latestFault = 0;
        if (!paving.has(c)) {
            return UNKNOWN;
        }
        if (!isWithin(kind, 0, KINDS - 1)) {
            return OUTSIDE;
        }
        // Each kind is one of every kind numbered below it, too.
        return paving.kindOf[c] < kind ? failed(CAST) : 1;
    }

    public int trace() {
        return traces.left;
    }

    public int fault() {
        return latestFault;
    }

    public int many(int what) {
        switch (what) {
            case 0:
                return paving.stones();
            case 1:
                return paving.wide;
            case 2:
                return readings.count;
            default:
                return OUTSIDE;
        }
    }

    // ---- refusals and faults

    /** What calls on a whole square in a month answer ahead of all else; 0: they go on. */
    private int refusalOf(int m, boolean othersAsTold) {
        if (!isMonth(m)) {
            return UNKNOWN;
        }
        if (!othersAsTold) {
            return OUTSIDE;
        }
        return paving.isBare() ? STATE : 0;
    }

    private int failed(int number) {
        latestFault = number;
        return -10 - number;
    }

    private static boolean isWithin(int v, int least, int most) {
        return v >= least && v <= most;
    }

    private static boolean isMonth(int m) {
        return isWithin(m, 0, MONTHS - 1);
    }

    private static boolean isSheet(int k) {
        return isWithin(k, 0, SHEETS - 1);
    }

    private static boolean isSort(int sort) {
        return isWithin(sort, 0, SORTS - 1);
    }

    private static boolean isApart(int v) {
        return isWithin(v, 0, MOST_APART);
    }

    /** Holds the number that bodies leave as they begin. */
    private static final class Trace {
        private int left;

        void leave(int body) {
            left = 31 * left + body;
        }
    }

    /** What stones of a kind have in common; what differs from stone to stone is in Paving's rows. */
    private static class Stone {
        int swell(int wet, int frost) {
            return 0;
        }

        int telling(int ground, Trace trace) {
            return stoneTelling(ground, trace);
        }

        /** Apart from telling, as FROSTY needs it past CLAY's. */
        final int stoneTelling(int ground, Trace trace) {
            trace.leave(1);
            return ground;
        }

        int trodden(int number, Trace trace) {
            trace.leave(4);
            return number;
        }
    }

    private static class Clay extends Stone {
        int swell(int wet, int frost) {
            return 3 * wet;
        }

        int telling(int ground, Trace trace) {
            trace.leave(2);
            return super.telling(ground, trace) + 100;
        }
    }

    private static final class Frosty extends Clay {
        int swell(int wet, int frost) {
            return super.swell(wet, frost) + 2 * frost;
        }

        int telling(int ground, Trace trace) {
            trace.leave(3);
            int asClay = super.telling(ground, trace);
            return asClay + stoneTelling(ground, trace);
        }

        int trodden(int number, Trace trace) {
            trace.leave(5);
            return 50;
        }
    }

    /** A row of numbers, or nothing; its cells are used again by each new row. */
    private static final class Sheet {
        private static final int NOTHING = -1;

        private final int[] cells = new int[MOST_CELLS];
        private int sort = NOTHING;
        private int length;

        boolean isNothing() {
            return sort == NOTHING;
        }

        /** The fault of taking it as a row of a sort and looking into it; 0: none. */
        int faultAs(int wanted) {
            if (isNothing()) {
                return NULL;
            }
            return sort == wanted ? 0 : CAST;
        }

        boolean hasCell(int i) {
            return i >= 0 && i < length;
        }

        /** Asks of n (0 at least) cells from i on; subtracts, as i + n might wrap. */
        boolean hasCells(int i, int n) {
            return i >= 0 && i <= length && n <= length - i;
        }

        void renew(int newSort, int n) {
            for (int i = 0; i < n; i++) {
                cells[i] = 0;
            }
            sort = newSort;
            length = n;
        }

        boolean clear() {
            boolean hadRow = !isNothing();
            sort = NOTHING;
            length = 0;
            return hadRow;
        }

        void write(int i, int v) {
            switch (sort) {
                case 0:
                    cells[i] = (byte) v;
                    break;
                case 1:
                    cells[i] = (short) v;
                    break;
                default:
                    cells[i] = v;
                    break;
            }
        }
    }

    /** The stones by number, and the months that make them swell. */
    private static final class Paving {
        private static final int HEAD = 3;

        private final Stone[] bodies = {new Stone(), new Clay(), new Frosty()};
        private final int[] kindOf = new int[MOST_STONES];
        private final int[] ground = new int[MOST_STONES];
        private final int[] lifted = new int[MOST_STONES];
        private final int[] rowOf = new int[MOST_STONES];
        private final int[] columnOf = new int[MOST_STONES];
        private final int[] wet = new int[MONTHS];
        private final int[] frost = new int[MONTHS];
        private int high;
        private int wide;

        /** The place of the first code with which no text goes on; NONE: the text is whole. */
        static int firstFault(Sheet text, int from, int n) {
            int rows = 0;
            int columns = 0;
            int whole = HEAD;
            for (int place = 0; place < n; place++) {
                int code = text.cells[from + place];
                boolean goesOn = place < HEAD
                        ? fitsHead(place, code) : place < whole && fitsRow(place, code, columns);
                if (!goesOn) {
                    return place;
                }
                if (place == 1) {
                    rows = code - '0';
                } else if (place == 2) {
                    columns = code - '0';
                    whole = HEAD + rows * rowLength(columns);
                }
            }
            return n < whole ? n : NONE;
        }

        private static boolean fitsHead(int place, int code) {
            if (place == 0) {
                return code == 'q';
            }
            return isWithin(code, '2', place == 1 ? '5' : '6');
        }

        private static boolean fitsRow(int place, int code, int columns) {
            int inRow = (place - HEAD) % rowLength(columns);
            if (inRow == 0) {
                return code == ';';
            }
            return inRow % 2 == 1 ? kindBy(code) != NONE : isWithin(code, '0', '9');
        }

        /** How many codes a row of stones has; 1 at least, so it may divide. */
        private static int rowLength(int columns) {
            return 1 + 2 * columns;
        }

        private static int kindBy(int letter) {
            switch (letter) {
                case 's':
                    return 0;
                case 'c':
                    return 1;
                case 'f':
                    return 2;
                default:
                    return NONE;
            }
        }

        /** Takes a text in which firstFault has found none. */
        void lay(Sheet text, int from) {
            high = text.cells[from + 1] - '0';
            wide = text.cells[from + 2] - '0';
            int place = from + HEAD;
            int c = 0;
            for (int row = 0; row < high; row++) {
                place++;
                for (int column = 0; column < wide; column++) {
                    kindOf[c] = kindBy(text.cells[place]);
                    ground[c] = text.cells[place + 1] - '0';
                    lifted[c] = 0;
                    rowOf[c] = row;
                    columnOf[c] = column;
                    place += 2;
                    c++;
                }
            }
            for (int m = 0; m < MONTHS; m++) {
                wet[m] = 0;
                frost[m] = 0;
            }
        }

        boolean isBare() {
            return wide == 0;
        }

        int stones() {
            return high * wide;
        }

        boolean has(int c) {
            return c >= 0 && c < high * wide;
        }

        boolean hasStall(int c) {
            return has(c) && rowOf[c] < high - 1 && columnOf[c] < wide - 1;
        }

        boolean isAtEdge(int c) {
            return rowOf[c] == 0 || rowOf[c] == high - 1
                    || columnOf[c] == 0 || columnOf[c] == wide - 1;
        }

        /** The stone at a side, NONE where there is none; sides go by rising numbers of stones. */
        int neighbour(int c, int side) {
            switch (side) {
                case 0:
                    return rowOf[c] > 0 ? c - wide : NONE;
                case 1:
                    return columnOf[c] > 0 ? c - 1 : NONE;
                case 2:
                    return columnOf[c] < wide - 1 ? c + 1 : NONE;
                default:
                    return rowOf[c] < high - 1 ? c + wide : NONE;
            }
        }

        boolean areBeside(int c, int other) {
            return Math.abs(rowOf[c] - rowOf[other]) + Math.abs(columnOf[c] - columnOf[other]) == 1;
        }

        Stone bodyOf(int c) {
            return bodies[kindOf[c]];
        }

        int heightOf(int c, int m) {
            return heightAs(kindOf[c], c, m);
        }

        int heightAs(int kind, int c, int m) {
            return 10 * ground[c] + lifted[c] + bodies[kind].swell(wet[m], frost[m]);
        }

        void writeHeights(int m, int[] row) {
            for (int c = 0; c < stones(); c++) {
                row[c] = heightOf(c, m);
            }
        }

        int highestMonth(int c) {
            int found = 0;
            for (int m = 1; m < MONTHS; m++) {
                if (heightOf(c, m) > heightOf(c, found)) {
                    found = m;
                }
            }
            return found;
        }

        int lowestMonth(int c) {
            int found = 0;
            for (int m = 1; m < MONTHS; m++) {
                if (heightOf(c, m) < heightOf(c, found)) {
                    found = m;
                }
            }
            return found;
        }
    }

    /** Ways for carts, in months that have been measured. */
    private static final class Ways {
        private final Paving paving;
        private final int[] heights = new int[MOST_STONES];
        private final int[] stepRight = new int[MOST_STONES];
        private final int[] stepDown = new int[MOST_STONES];
        private final int[] steps = new int[MOST_STONES];
        private final int[] queue = new int[MOST_STONES];

        Ways(Paving paving) {
            this.paving = paving;
        }

        /** Keeps for stones beside one another how far apart they come in any of the months. */
        void measure(int firstMonth, int lastMonth) {
            for (int c = 0; c < paving.stones(); c++) {
                stepRight[c] = 0;
                stepDown[c] = 0;
            }
            for (int m = firstMonth; m <= lastMonth; m++) {
                paving.writeHeights(m, heights);
                for (int c = 0; c < paving.stones(); c++) {
                    stepRight[c] = Math.max(stepRight[c], apartTo(c, paving.neighbour(c, 2)));
                    stepDown[c] = Math.max(stepDown[c], apartTo(c, paving.neighbour(c, 3)));
                }
            }
        }

        private int apartTo(int c, int other) {
            return other == NONE ? 0 : Math.abs(heights[c] - heights[other]);
        }

        /** The step at a side at which there is a neighbour. */
        private int stepAt(int c, int side, int neighbour) {
            if (side == 0) {
                return stepDown[neighbour];
            }
            if (side == 1) {
                return stepRight[neighbour];
            }
            return side == 2 ? stepRight[c] : stepDown[c];
        }

        /** Fills steps: how many each stone is away; NONE: there is no way. */
        void countStepsTo(int to, int step) {
            for (int c = 0; c < paving.stones(); c++) {
                steps[c] = NONE;
            }
            steps[to] = 0;
            queue[0] = to;
            int waiting = 1;
            for (int k = 0; k < waiting && k < MOST_STONES; k++) {
                int c = queue[k];
                for (int side = 0; side < SIDES; side++) {
                    int other = paving.neighbour(c, side);
                    if (other != NONE && steps[other] == NONE && stepAt(c, side, other) <= step) {
                        steps[other] = steps[c] + 1;
                        queue[waiting] = other;
                        waiting++;
                    }
                }
            }
        }

        int stoneBehind(int from, int step, int q) {
            if (q > steps[from]) {
                return NONE;
            }
            int c = from;
            for (int k = 0; k < q; k++) {
                c = nextOnWay(c, step);
            }
            return c;
        }

        private int nextOnWay(int c, int step) {
            for (int side = 0; side < SIDES; side++) {
                int other = paving.neighbour(c, side);
                if (other != NONE && steps[other] == steps[c] - 1 && stepAt(c, side, other) <= step) {
                    return other;
                }
            }
            return c;
        }

        /** Each pass carries least steps at least one stone on, so one for each stone is enough. */
        int leastBetween(int from, int to) {
            for (int c = 0; c < paving.stones(); c++) {
                steps[c] = ABOVE_ALL;
            }
            steps[from] = 0;
            boolean changed = true;
            for (int pass = 0; changed && pass < MOST_STONES; pass++) {
                changed = false;
                for (int c = 0; c < paving.stones(); c++) {
                    int least = leastByNeighbours(c);
                    changed = changed || least < steps[c];
                    steps[c] = least;
                }
            }
            return steps[to];
        }

        private int leastByNeighbours(int c) {
            int least = steps[c];
            for (int side = 0; side < SIDES; side++) {
                int other = paving.neighbour(c, side);
                if (other != NONE) {
                    least = Math.min(least, Math.max(steps[other], stepAt(c, side, other)));
                }
            }
            return least;
        }
    }

    /** Places for stalls and for an oval, in a month that has been measured. */
    private static final class Places {
        private final Paving paving;
        private final int[] heights = new int[MOST_STONES];
        private final int[] wedgesOf = new int[MOST_STONES];
        private int first;
        private int second;
        private int together;

        Places(Paving paving) {
            this.paving = paving;
        }

        void measure(int m) {
            paving.writeHeights(m, heights);
        }

        /** Of a stone that has a stall. */
        int wedgesAt(int c) {
            int below = c + paving.wide;
            int upper = Math.max(heights[c], heights[c + 1]);
            int lower = Math.max(heights[below], heights[below + 1]);
            int sum = heights[c] + heights[c + 1] + heights[below] + heights[below + 1];
            return 4 * Math.max(upper, lower) - sum;
        }

        /** Every square has a place at 0, as it is two by two at least. */
        int bestPlace() {
            int found = 0;
            for (int c = 1; c < paving.stones(); c++) {
                if (paving.hasStall(c) && wedgesAt(c) < wedgesAt(found)) {
                    found = c;
                }
            }
            return found;
        }

        void findPair() {
            first = NONE;
            second = NONE;
            together = NONE;
            for (int c = 0; c < paving.stones(); c++) {
                wedgesOf[c] = paving.hasStall(c) ? wedgesAt(c) : NONE;
            }
            for (int a = 0; a < paving.stones(); a++) {
                for (int b = a + 1; b < paving.stones(); b++) {
                    if (wedgesOf[a] != NONE && wedgesOf[b] != NONE && areClear(a, b)) {
                        takePair(a, b, wedgesOf[a] + wedgesOf[b]);
                    }
                }
            }
        }

        private boolean areClear(int a, int b) {
            return Math.abs(paving.rowOf[a] - paving.rowOf[b]) > 1
                    || Math.abs(paving.columnOf[a] - paving.columnOf[b]) > 1;
        }

        private void takePair(int a, int b, int sum) {
            if (together == NONE || sum < together) {
                first = a;
                second = b;
                together = sum;
            }
        }

        /** A stone alone is always flat, so there is an oval. */
        void findOval(int apart) {
            first = 0;
            second = 0;
            together = 1;
            for (int a = 0; a < paving.stones(); a++) {
                for (int b = a; b < paving.stones(); b++) {
                    int size = sizeOf(a, b);
                    if (size > together && spread(a, b) <= apart) {
                        first = a;
                        second = b;
                        together = size;
                    }
                }
            }
        }

        /** How many stones the rectangle has; 0 at most, if there is none from a to b. */
        private int sizeOf(int a, int b) {
            int columns = paving.columnOf[b] - paving.columnOf[a] + 1;
            return columns * (paving.rowOf[b] - paving.rowOf[a] + 1);
        }

        private int spread(int a, int b) {
            int lowest = heights[a];
            int highest = heights[a];
            for (int c = a; c <= b; c++) {
                if (paving.columnOf[c] >= paving.columnOf[a] && paving.columnOf[c] <= paving.columnOf[b]) {
                    lowest = Math.min(lowest, heights[c]);
                    highest = Math.max(highest, heights[c]);
                }
            }
            return highest - lowest;
        }
    }

    /** Water on the stones, in a month that has been measured. */
    private static final class Water {
        private final Paving paving;
        private final int[] heights = new int[MOST_STONES];
        private final int[] levels = new int[MOST_STONES];

        Water(Paving paving) {
            this.paving = paving;
        }

        void measure(int m) {
            paving.writeHeights(m, heights);
        }

        /** Water falls from above all stones; each pass carries the edge's pull one stone on. */
        void settle() {
            for (int c = 0; c < paving.stones(); c++) {
                levels[c] = paving.isAtEdge(c) ? heights[c] : ABOVE_ALL;
            }
            boolean changed = true;
            for (int pass = 0; changed && pass < MOST_STONES; pass++) {
                changed = false;
                for (int c = 0; c < paving.stones(); c++) {
                    if (!paving.isAtEdge(c)) {
                        int level = Math.max(heights[c], lowestBeside(c));
                        changed = changed || level < levels[c];
                        levels[c] = level;
                    }
                }
            }
        }

        private int lowestBeside(int c) {
            int lowest = ABOVE_ALL;
            for (int side = 0; side < SIDES; side++) {
                int other = paving.neighbour(c, side);
                if (other != NONE) {
                    lowest = Math.min(lowest, levels[other]);
                }
            }
            return lowest;
        }

        int depthAt(int c) {
            return levels[c] - heights[c];
        }

        int allDepths() {
            settle();
            int sum = 0;
            for (int c = 0; c < paving.stones(); c++) {
                sum += depthAt(c);
            }
            return sum;
        }

        int poolIfLifted(int c, int by) {
            heights[c] += by;
            int sum = allDepths();
            heights[c] -= by;
            return sum;
        }

        int bestLifted(int by) {
            int found = 0;
            int least = poolIfLifted(0, by);
            for (int c = 1; c < paving.stones(); c++) {
                int sum = poolIfLifted(c, by);
                if (sum < least) {
                    found = c;
                    least = sum;
                }
            }
            return found;
        }
    }

    /** Plays a mason's nights on a row of its own, so that nothing is really lifted. */
    private static final class Mason {
        private static final int PER_HEIGHT = 32;

        private final Paving paving;
        /** Heights times 32, and numbers: in order, the first ones are the ones to lift. */
        private final int[] ranks = new int[MOST_STONES];

        Mason(Paving paving) {
            this.paving = paving;
        }

        int nightsTill(int m, int k, int apart) {
            int count = paving.stones();
            int picked = Math.min(k, count);
            for (int c = 0; c < count; c++) {
                ranks[c] = paving.heightOf(c, m) * PER_HEIGHT + c;
            }
            for (int night = 0; night <= MOST_NIGHTS; night++) {
                putInOrder(count);
                if (ranks[count - 1] / PER_HEIGHT - ranks[0] / PER_HEIGHT <= apart) {
                    return night;
                }
                for (int rank = 0; rank < picked; rank++) {
                    ranks[rank] += PER_HEIGHT;
                }
            }
            return NONE;
        }

        /** By insertion, as a night leaves the row nearly in order. */
        private void putInOrder(int count) {
            for (int k = 1; k < count; k++) {
                int rank = ranks[k];
                int at = k;
                while (at > 0 && ranks[at - 1] > rank) {
                    ranks[at] = ranks[at - 1];
                    at--;
                }
                ranks[at] = rank;
            }
        }
    }

    /** What was measured of stones. */
    private static final class Readings {
        private final Paving paving;
        private final int[] stoneOf = new int[MOST_READINGS];
        private final int[] monthOf = new int[MOST_READINGS];
        private final int[] heightRead = new int[MOST_READINGS];
        private int count;

        Readings(Paving paving) {
            this.paving = paving;
        }

        void forgetAll() {
            count = 0;
        }

        boolean isFull() {
            return count >= MOST_READINGS;
        }

        int take(int c, int m, int read) {
            stoneOf[count] = c;
            monthOf[count] = m;
            heightRead[count] = read;
            count++;
            return count - 1;
        }

        int takeBack(int k) {
            count -= k;
            return count;
        }

        int kindsOf(int c) {
            int found = 0;
            for (int kind = 0; kind < KINDS; kind++) {
                if (areAllSo(c, kind)) {
                    found |= 1 << kind;
                }
            }
            return found;
        }

        private boolean areAllSo(int c, int kind) {
            for (int k = 0; k < count; k++) {
                if (stoneOf[k] == c && paving.heightAs(kind, c, monthOf[k]) != heightRead[k]) {
                    return false;
                }
            }
            return true;
        }
    }
}
