/** All that an object tells of itself but fault(), as a text, to compare it with another one's. */
final class State {
    private State() {
    }

    /** Uses the object up: it takes its readings back and changes its months. */
    static String of(BreathSquare x) {
        StringBuilder told = new StringBuilder();
        told.append("trace ").append(x.trace());
        told.append(" many ").append(x.many(0)).append(' ').append(x.many(1)).append(' ').append(x.many(2));
        stones(x, told);
        readings(x, told);
        months(x, told);
        for (int k = 0; k < 4; k++) {
            sheet(x, k, told);
        }
        return told.toString();
    }

    private static void stones(BreathSquare x, StringBuilder told) {
        told.append(" stones");
        for (int c = 0; c < x.many(0); c++) {
            told.append(' ').append("scf".charAt(x.ofStone(c, 0))).append(x.ofStone(c, 1)).append('+').append(x.ofStone(c, 2));
        }
    }

    private static void readings(BreathSquare x, StringBuilder told) {
        int left = x.many(2);
        while (left >= 0) {
            told.append(" kinds by ").append(left).append(':');
            for (int c = 0; c < x.many(0); c++) {
                told.append(x.kinds(c));
            }
            left = x.back(1);
        }
    }

    private static void months(BreathSquare x, StringBuilder told) {
        told.append(" months");
        for (int m = 0; m < 12; m++) {
            told.append(' ').append(x.month(m, 0, 0));
        }
    }

    private static void sheet(BreathSquare x, int k, StringBuilder told) {
        told.append(" sheet ").append(k);
        for (int sort = 0; sort < 3; sort++) {
            long first = x.cell(k, 0, sort);
            int fault = x.fault();
            if (fault == Check.NULL) {
                told.append(" nothing");
                return;
            }
            if (fault != Check.CAST) {
                told.append(" sort ").append(sort).append(':');
                for (int i = 0; first != BreathSquare.LOST; i++) {
                    told.append(' ').append(first);
                    first = x.cell(k, i + 1, sort);
                }
            }
        }
    }
}
