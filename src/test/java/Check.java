/** Counts answers that are not as due, and lays squares by their text. */
final class Check {
    static final int NULL = 1;
    static final int CAST = 2;
    static final int INDEX = 3;
    static final int SIZE = 4;

    private static int asked;
    private static int wrong;

    private Check() {
    }

    static void same(String what, long got, long due) {
        asked++;
        if (got != due) {
            wrong++;
            System.out.println(what + " answered " + got + ", due is " + due);
        }
    }

    static void same(String what, String got, String due) {
        asked++;
        if (!got.equals(due)) {
            wrong++;
            System.out.println(what + " left " + got + ", due is " + due);
        }
    }

    static void that(String what, boolean holds) {
        same(what, holds ? 1 : 0, 1);
    }

    /** A call came to a fault of the machine: it answers so, and fault() tells it. */
    static void faulty(String what, BreathSquare x, int answer, int fault) {
        same(what, answer, -10 - fault);
        same(what + " told", x.fault(), fault);
    }

    /** A cell that is lost: by a fault, or refused, if the fault is 0. */
    static void lost(String what, BreathSquare x, long answer, int fault) {
        same(what, answer, BreathSquare.LOST);
        same(what + " told", x.fault(), fault);
    }

    /** Writes a text into a sheet of a sort from i on; the sheet is just long enough. */
    static void write(BreathSquare x, int sheet, int sort, int i, String text) {
        same("sheet for " + text, x.sheet(sheet, sort, i + text.length()), 1);
        for (int k = 0; k < text.length(); k++) {
            same("put of " + text, x.put(sheet, i + k, text.charAt(k)), 1);
        }
    }

    /** What square answers to a text that is written into sheet 0. */
    static int lay(BreathSquare x, String text) {
        write(x, 0, 0, 0, text);
        return x.square(0, 0, 0, text.length());
    }

    static BreathSquare laid(String text) {
        BreathSquare x = new BreathSquare();
        that("laying " + text, lay(x, text) > 0);
        return x;
    }

    /** A text of stones that are all alike. */
    static String alike(int high, int wide, String stone) {
        return "q" + high + wide + (";" + stone.repeat(wide)).repeat(high);
    }

    static void end(String test) {
        System.out.println(test + ": " + asked + " answers, " + wrong + " wrong");
        if (wrong != 0) {
            System.exit(1);
        }
    }
}
