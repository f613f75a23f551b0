/** Promises 1 to 7: a new object, square, ofStone, month, lift, height, rises. */
public final class SquareTest {
    private static final String SMALL = "q22;s1c2;f3s4";

    public static void main(String[] args) {
        newObject();
        textsTaken();
        firstFaults();
        faultsOfSquare();
        anew();
        ofStone();
        month();
        lift();
        height();
        rises();
        Check.end("SquareTest");
    }

    private static void newObject() {
        BreathSquare x = new BreathSquare();
        for (int what = 0; what < 3; what++) {
            Check.same("new: many " + what, x.many(what), 0);
        }
        for (int k = 0; k < 4; k++) {
            Check.same("new: lose", x.lose(k), 0);
            Check.same("new: put", x.put(k, 0, 1), -11);
        }
        BreathSquare y = new BreathSquare();
        Check.same("new: fault", y.fault(), 0);
        Check.same("new: trace", y.trace(), 0);
        Check.same("new: ofStone", y.ofStone(0, 9), BreathSquare.UNKNOWN);
        Check.same("new: month", y.month(0, 0, 0), BreathSquare.STATE);
        Check.same("new: lift", y.lift(0, 0), BreathSquare.UNKNOWN);
        Check.same("new: height", y.height(0, 0), BreathSquare.UNKNOWN);
        Check.same("new: rises", y.rises(0, 0), BreathSquare.UNKNOWN);
        Check.same("new: two", y.two(0, 0), BreathSquare.STATE);
        Check.same("new: pool", y.pool(0), BreathSquare.STATE);
        Check.same("new: nights", y.nights(0, 1, 0), BreathSquare.STATE);
        Check.same("new: back", y.back(0), 0);
    }

    private static String flat(int high, int wide) {
        StringBuilder text = new StringBuilder("q").append(high).append(wide);
        for (int row = 0; row < high; row++) {
            text.append(';');
            for (int column = 0; column < wide; column++) {
                text.append("scf".charAt((row + column) % 3)).append((row * wide + column) % 10);
            }
        }
        return text.toString();
    }

    private static void textsTaken() {
        for (int high = 2; high <= 5; high++) {
            for (int wide = 2; wide <= 6; wide++) {
                BreathSquare x = new BreathSquare();
                Check.same("flat", Check.lay(x, flat(high, wide)), high * wide);
                Check.same("stones", x.many(0), high * wide);
                Check.same("wide", x.many(1), wide);
                for (int c = 0; c < high * wide; c++) {
                    Check.same("kind", x.ofStone(c, 0), (c / wide + c % wide) % 3);
                    Check.same("ground", x.ofStone(c, 1), c % 10);
                }
            }
        }
        for (int sort = 0; sort < 3; sort++) {
            BreathSquare x = new BreathSquare();
            Check.write(x, 3, sort, 5, SMALL);
            Check.same("from 5 on", x.square(3, sort, 5, 13), 4);
            Check.same("ground from 5 on", x.ofStone(3, 1), 4);
        }
    }

    private static void firstFaults() {
        BreathSquare x = new BreathSquare();
        for (int n = 0; n < SMALL.length(); n++) {
            Check.same("too soon at " + n, Check.lay(x, SMALL.substring(0, n)), -100 - n);
        }
        for (int place = 0; place < SMALL.length(); place++) {
            for (char code : new char[] {'x', (char) 0, '/', ':', 'q' + 1, 'S'}) {
                BreathSquare y = new BreathSquare();
                String text = SMALL.substring(0, place) + code + SMALL.substring(place + 1);
                Check.same("wrong code at " + place, Check.lay(y, text), -100 - place);
                Check.same("no stones", y.many(0), 0);
                Check.same("no fault of the machine", y.fault(), 0);
            }
        }
        Check.same("too long", Check.lay(new BreathSquare(), SMALL + ";"), -113);
        Check.same("too long", Check.lay(new BreathSquare(), SMALL + "s1"), -113);
        Check.same("high 1", Check.lay(new BreathSquare(), "q12;s1s1"), -101);
        Check.same("high 6", Check.lay(new BreathSquare(), "q62;s1s1"), -101);
        Check.same("wide 1", Check.lay(new BreathSquare(), "q21;s1;s1"), -102);
        Check.same("wide 7", Check.lay(new BreathSquare(), "q27;s1"), -102);
        Check.same("row too long", Check.lay(new BreathSquare(), "q22;s1s2s3;s1s2"), -108);
        Check.same("row too short", Check.lay(new BreathSquare(), "q22;s1;s1s2"), -106);
        BreathSquare y = new BreathSquare();
        Check.write(y, 1, 2, 4, SMALL);
        y.put(1, 4, 'q' + 256);
        Check.same("a code is not cut; places count from i on", y.square(1, 2, 4, 13), -100);
        y.put(1, 4, 'q');
        y.put(1, 4 + 12, 'x');
        Check.same("places count from i on", y.square(1, 2, 4, 13), -112);
        Check.same("ends before it", y.square(1, 2, 4, 12), -112);
        Check.same("none taken", y.square(1, 2, 17, 0), -100);
    }

    private static void faultsOfSquare() {
        BreathSquare x = new BreathSquare();
        Check.write(x, 0, 0, 0, SMALL);
        Check.same("sheet -1", x.square(-1, -1, 0, -1), BreathSquare.UNKNOWN);
        Check.same("sheet 4", x.square(4, 0, 0, 13), BreathSquare.UNKNOWN);
        Check.same("sort -1", x.square(1, -1, 0, -1), BreathSquare.OUTSIDE);
        Check.same("sort 3", x.square(0, 3, 0, 13), BreathSquare.OUTSIDE);
        Check.faulty("NULL", x, x.square(1, 2, -1, -1), 1);
        Check.faulty("CAST", x, x.square(0, 1, -1, -1), 2);
        Check.faulty("SIZE", x, x.square(0, 0, -1, -1), 4);
        Check.faulty("SIZE", x, x.square(0, 0, 0, Integer.MIN_VALUE), 4);
        Check.faulty("INDEX: i below 0", x, x.square(0, 0, -1, 1), 3);
        Check.faulty("INDEX: i below 0, none taken", x, x.square(0, 0, -1, 0), 3);
        Check.faulty("INDEX: i beyond, none taken", x, x.square(0, 0, 14, 0), 3);
        Check.faulty("INDEX: one too many", x, x.square(0, 0, 0, 14), 3);
        Check.faulty("INDEX: one too many", x, x.square(0, 0, 1, 13), 3);
        Check.faulty("INDEX: wraps", x, x.square(0, 0, 2, Integer.MAX_VALUE), 3);
        Check.faulty("INDEX: wraps", x, x.square(0, 0, Integer.MAX_VALUE, Integer.MAX_VALUE), 3);
        Check.same("refused", x.square(0, 3, 0, 13), BreathSquare.OUTSIDE);
        Check.same("fault of a refused call", x.fault(), 0);
        Check.faulty("NULL", x, x.square(1, 2, 0, 1), 1);
        Check.same("no text", x.square(0, 0, 1, 12), -100);
        Check.same("FIRST FAULT is no fault of the machine", x.fault(), 0);
        Check.same("nothing was laid", x.many(0), 0);
        Check.faulty("NULL", x, x.square(1, 2, 0, 1), 1);
        Check.same("taken", x.square(0, 0, 0, 13), 4);
        Check.same("fault of a text that is taken", x.fault(), 0);
    }

    private static void anew() {
        BreathSquare x = Check.laid(SMALL);
        x.month(3, 4, 5);
        x.lift(2, 7);
        x.reading(2, 3, 1);
        x.tell(0);
        Check.same("a text that is not taken", x.square(0, 0, 0, 12), -112);
        Check.same("changes no lifting", x.ofStone(2, 2), 7);
        Check.same("changes no month", x.month(3, 4, 5), 45);
        Check.same("changes no readings", x.many(2), 1);
        Check.same("taken again", x.square(0, 0, 0, 13), 4);
        Check.same("nothing lifted", x.ofStone(2, 2), 0);
        Check.same("months 0", x.month(3, 0, 0), 0);
        for (int m = 0; m < 12; m++) {
            x.month(m, 9, 9);
        }
        Check.same("taken again", x.square(0, 0, 0, 13), 4);
        for (int m = 0; m < 12; m++) {
            Check.same("month 0 again", x.month(m, 0, 0), 0);
        }
        Check.same("no readings", x.many(2), 0);
        Check.same("all kinds again", x.kinds(2), 7);
        Check.same("trace goes on", x.trace(), 1);
        Check.same("sheet is kept", x.cell(0, 0, 0), 'q');
        Check.same("smaller to larger", Check.lay(x, "q23;s0s0s0;s9s9s9"), 6);
        Check.same("no stone 6", x.ofStone(6, 0), BreathSquare.UNKNOWN);
        Check.same("larger to smaller", Check.lay(x, SMALL), 4);
        Check.same("no stone 4", x.ofStone(4, 0), BreathSquare.UNKNOWN);
    }

    private static void ofStone() {
        BreathSquare x = Check.laid(SMALL);
        x.lift(3, 42);
        int[][] due = {{0, 1, 0}, {1, 2, 0}, {2, 3, 0}, {0, 4, 42}};
        for (int c = 0; c < 4; c++) {
            for (int what = 0; what < 3; what++) {
                Check.same("ofStone " + c + " " + what, x.ofStone(c, what), due[c][what]);
            }
            Check.same("what -1", x.ofStone(c, -1), BreathSquare.OUTSIDE);
            Check.same("what 3", x.ofStone(c, 3), BreathSquare.OUTSIDE);
        }
        Check.same("stone -1", x.ofStone(-1, 3), BreathSquare.UNKNOWN);
        Check.same("stone 4", x.ofStone(4, 0), BreathSquare.UNKNOWN);
        Check.same("far off", x.ofStone(Integer.MIN_VALUE, 0), BreathSquare.UNKNOWN);
    }

    private static void month() {
        BreathSquare x = Check.laid(SMALL);
        for (int m = 0; m < 12; m++) {
            Check.same("month at first", x.month(m, m % 10, 9 - m % 10), 0);
        }
        for (int m = 0; m < 12; m++) {
            Check.same("month then", x.month(m, 9, 0), 10 * (m % 10) + 9 - m % 10);
        }
        Check.same("month -1", x.month(-1, 10, 0), BreathSquare.UNKNOWN);
        Check.same("month 12", x.month(12, 0, 0), BreathSquare.UNKNOWN);
        Check.same("wet -1", x.month(0, -1, 0), BreathSquare.OUTSIDE);
        Check.same("wet 10", x.month(0, 10, 0), BreathSquare.OUTSIDE);
        Check.same("frost -1", x.month(0, 0, -1), BreathSquare.OUTSIDE);
        Check.same("frost 10", x.month(0, 0, 10), BreathSquare.OUTSIDE);
        Check.same("nothing changed", x.month(0, 0, 0), 90);
        BreathSquare none = new BreathSquare();
        Check.same("no square: month 12", none.month(12, 10, 0), BreathSquare.UNKNOWN);
        Check.same("no square: wet 10", none.month(0, 10, 0), BreathSquare.OUTSIDE);
        Check.same("no square", none.month(0, 9, 9), BreathSquare.STATE);
        Check.lay(none, SMALL);
        Check.same("nothing was kept", none.month(0, 0, 0), 0);
    }

    private static void lift() {
        BreathSquare x = Check.laid(SMALL);
        Check.same("lift", x.lift(1, 99), 0);
        Check.same("in place of", x.lift(1, 3), 99);
        Check.same("to 0", x.lift(1, 0), 3);
        Check.same("others not", x.ofStone(0, 2) + x.ofStone(2, 2) + x.ofStone(3, 2), 0);
        x.lift(1, 5);
        Check.same("stone -1", x.lift(-1, 100), BreathSquare.UNKNOWN);
        Check.same("stone 4", x.lift(4, 0), BreathSquare.UNKNOWN);
        Check.same("v -1", x.lift(1, -1), BreathSquare.OUTSIDE);
        Check.same("v 100", x.lift(1, 100), BreathSquare.OUTSIDE);
        Check.same("nothing changed", x.ofStone(1, 2), 5);
    }

    private static void height() {
        BreathSquare x = Check.laid(SMALL);
        x.month(5, 4, 3);
        x.lift(2, 7);
        Check.same("stone", x.height(0, 5), 10);
        Check.same("clay", x.height(1, 5), 20 + 12);
        Check.same("frosty", x.height(2, 5), 30 + 7 + 12 + 6);
        Check.same("another month", x.height(2, 4), 37);
        x.month(5, 9, 9);
        x.lift(2, 99);
        Check.same("most", x.height(2, 5), 30 + 99 + 27 + 18);
        Check.same("stone -1", x.height(-1, 5), BreathSquare.UNKNOWN);
        Check.same("stone 4", x.height(4, 5), BreathSquare.UNKNOWN);
        Check.same("month -1", x.height(0, -1), BreathSquare.UNKNOWN);
        Check.same("month 12", x.height(0, 12), BreathSquare.UNKNOWN);
    }

    private static void rises() {
        BreathSquare x = Check.laid(SMALL);
        for (int m = 0; m < 12; m++) {
            x.month(m, 5, 5);
        }
        Check.same("all like: highest", x.rises(2, 0), 0);
        Check.same("all like: lowest", x.rises(2, 1), 0);
        x.month(4, 6, 0);
        x.month(7, 6, 9);
        x.month(9, 4, 9);
        x.month(11, 4, 0);
        Check.same("stone: highest", x.rises(0, 0), 0);
        Check.same("stone: lowest", x.rises(0, 1), 0);
        Check.same("clay: highest, of two the first", x.rises(1, 0), 4);
        Check.same("clay: lowest, of two the first", x.rises(1, 1), 9);
        Check.same("frosty: highest", x.rises(2, 0), 7);
        Check.same("frosty: lowest", x.rises(2, 1), 11);
        for (int m = 0; m < 12; m++) {
            BreathSquare y = Check.laid(SMALL);
            y.month(m, 1, 0);
            Check.same("highest in " + m, y.rises(1, 0), m);
            Check.same("lowest beside " + m, y.rises(1, 1), m == 0 ? 1 : 0);
        }
        Check.same("stone 4", x.rises(4, 2), BreathSquare.UNKNOWN);
        Check.same("stone -1", x.rises(-1, 0), BreathSquare.UNKNOWN);
        Check.same("what -1", x.rises(0, -1), BreathSquare.OUTSIDE);
        Check.same("what 2", x.rises(0, 2), BreathSquare.OUTSIDE);
    }
}
