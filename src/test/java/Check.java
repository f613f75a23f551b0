/** Counts answers that are not as due, and lays squares by their text. */
final class Check {
    private static int asked;
    private static int wrong;

    private Check() {
    }

    static void same(String what, long got, long due) {
        asked++;
        if (got != due) {
            wrong++;
            System.out.println(what + " answered " + got + ", due is " + due);
        }
    }

    static void that(String what, boolean holds) {
        same(what, holds ? 1 : 0, 1);
    }

    /** Writes a text into a sheet of a sort from i on; the sheet is just long enough. */
    static void write(BreathSquare x, int sheet, int sort, int i, String text) {
        same("sheet for " + text, x.sheet(sheet, sort, i + text.length()), 1);
        for (int k = 0; k < text.length(); k++) {
            same("put of " + text, x.put(sheet, i + k, text.charAt(k)), 1);
        }
    }

    /** What square answers to a text that is written into sheet 0. */
    static int lay(BreathSquare x, String text) {
        write(x, 0, 0, 0, text);
        return x.square(0, 0, 0, text.length());
    }

    static BreathSquare laid(String text) {
        BreathSquare x = new BreathSquare();
        that("laying " + text, lay(x, text) > 0);
        return x;
    }

    static void end(String test) {
        System.out.println(test + ": " + asked + " answers, " + wrong + " wrong");
        if (wrong != 0) {
            System.exit(1);
        }
    }
}
