import java.util.ArrayDeque;
import java.util.ArrayList;
import java.util.Arrays;
import java.util.HashSet;
import java.util.List;
import java.util.PriorityQueue;
import java.util.Set;
import java.util.TreeMap;
import java.util.regex.Pattern;

/**
 * The document once more, by other means than the class: real rows and the machine's own faults,
 * sets, sorted lists, a way for every step. Slow and plain, as ModelTest compares the two.
 */
final class Model {
    private static final Pattern HEAD = Pattern.compile("q([2-5])([2-6])(.*)", Pattern.DOTALL);

    private final Object[] rows = new Object[4];
    private int high;
    private int wide;
    private int[] kind = {};
    private int[] ground = {};
    private int[] lifted = {};
    private int[] wet = new int[12];
    private int[] frost = new int[12];
    private final List<int[]> readings = new ArrayList<>();
    private int trace;
    private int fault;

    private int stones() {
        return kind.length;
    }

    private boolean noStone(int c) {
        return c < 0 || c >= stones();
    }

    private boolean noMonth(int m) {
        return m < 0 || m > 11;
    }

    private static boolean out(int v, int least, int most) {
        return v < least || v > most;
    }

    private int failed(int number) {
        fault = number;
        return -10 - number;
    }

    private static int numberOf(RuntimeException e) {
        if (e instanceof NullPointerException) {
            return 1;
        }
        if (e instanceof ClassCastException || e instanceof ArrayStoreException) {
            return 2;
        }
        if (e instanceof IndexOutOfBoundsException) {
            return 3;
        }
        if (e instanceof NegativeArraySizeException) {
            return 4;
        }
        throw e;
    }

    private static Object cast(Object row, int sort) {
        return sort == 0 ? (Object) (byte[]) row : sort == 1 ? (Object) (short[]) row : (Object) (int[]) row;
    }

    int square(int k, int sort, int i, int n) {
        fault = 0;
        if (out(k, 0, 3)) {
            return -1;
        }
        if (out(sort, 0, 2)) {
            return -2;
        }
        StringBuilder text = new StringBuilder();
        try {
            Object row = cast(rows[k], sort);
            int length = java.lang.reflect.Array.getLength(row);
            int[] codes = new int[n > length ? Math.min(n, 1000) : n];
            java.util.Objects.checkFromIndexSize(i, n, length);
            for (int p = 0; p < codes.length; p++) {
                int code = java.lang.reflect.Array.getInt(row, i + p);
                text.append(code < 0 || code > 255 ? '?' : (char) code);
            }
        } catch (RuntimeException e) {
            return failed(numberOf(e));
        }
        int place = firstFault(text.toString());
        if (place >= 0) {
            return -100 - place;
        }
        high = text.charAt(1) - '0';
        wide = text.charAt(2) - '0';
        String stones = text.substring(3).replace(";", "");
        kind = new int[high * wide];
        ground = new int[high * wide];
        lifted = new int[high * wide];
        for (int c = 0; c < kind.length; c++) {
            kind[c] = "scf".indexOf(stones.charAt(2 * c));
            ground[c] = stones.charAt(2 * c + 1) - '0';
        }
        wet = new int[12];
        frost = new int[12];
        readings.clear();
        return kind.length;
    }

    /** The shortest prefix of which no text is a continuation tells the place. */
    private static int firstFault(String text) {
        for (int n = 1; n <= text.length(); n++) {
            if (!canGoOn(text.substring(0, n))) {
                return n - 1;
            }
        }
        return isWhole(text) ? -1 : text.length();
    }

    private static boolean canGoOn(String start) {
        for (int h = 2; h <= 5; h++) {
            for (int w = 2; w <= 6; w++) {
                String filled = start + ("q" + h + w + (";" + "s0".repeat(w)).repeat(h)).substring(
                        Math.min(start.length(), 3 + h * (1 + 2 * w)));
                if (isWhole(filled)) {
                    return true;
                }
            }
        }
        return false;
    }

    private static boolean isWhole(String text) {
        java.util.regex.Matcher head = HEAD.matcher(text);
        if (!head.matches()) {
            return false;
        }
        return Pattern.matches("(;([scf][0-9]){" + head.group(2) + "}){" + head.group(1) + "}", head.group(3));
    }

    int ofStone(int c, int what) {
        if (noStone(c)) {
            return -1;
        }
        return what == 0 ? kind[c] : what == 1 ? ground[c] : what == 2 ? lifted[c] : -2;
    }

    int month(int m, int w, int f) {
        if (noMonth(m)) {
            return -1;
        }
        if (out(w, 0, 9) || out(f, 0, 9)) {
            return -2;
        }
        if (stones() == 0) {
            return -3;
        }
        int was = 10 * wet[m] + frost[m];
        wet[m] = w;
        frost[m] = f;
        return was;
    }

    int lift(int c, int v) {
        if (noStone(c)) {
            return -1;
        }
        if (out(v, 0, 99)) {
            return -2;
        }
        int was = lifted[c];
        lifted[c] = v;
        return was;
    }

    private int high(int as, int c, int m) {
        return ground[c] * 10 + lifted[c] + (as > 0 ? wet[m] * 3 : 0) + (as > 1 ? frost[m] * 2 : 0);
    }

    private int[] heights(int m) {
        int[] h = new int[stones()];
        Arrays.setAll(h, c -> high(kind[c], c, m));
        return h;
    }

    int height(int c, int m) {
        return noStone(c) || noMonth(m) ? -1 : heights(m)[c];
    }

    int rises(int c, int what) {
        if (noStone(c)) {
            return -1;
        }
        if (out(what, 0, 1)) {
            return -2;
        }
        TreeMap<Integer, Integer> firstBy = new TreeMap<>();
        for (int m = 0; m < 12; m++) {
            firstBy.putIfAbsent(heights(m)[c], m);
        }
        return what == 0 ? firstBy.lastEntry().getValue() : firstBy.firstEntry().getValue();
    }

    private boolean beside(int a, int b) {
        boolean inRow = a / wide == b / wide && Math.abs(a - b) == 1;
        return inRow || Math.abs(a - b) == wide;
    }

    /** The first of the shortest ways, as a row; null: there is none. */
    private List<Integer> wayOf(int from, int to, int first, int last, int step) {
        List<int[]> all = new ArrayList<>();
        for (int m = first; m <= last; m++) {
            all.add(heights(m));
        }
        ArrayDeque<List<Integer>> open = new ArrayDeque<>(List.of(List.of(from)));
        Set<Integer> seen = new HashSet<>(Set.of(from));
        while (!open.isEmpty()) {
            List<Integer> row = open.poll();
            int at = row.get(row.size() - 1);
            if (at == to) {
                return row;
            }
            for (int next = 0; next < stones(); next++) {
                int n = next;
                if (beside(at, next) && all.stream().allMatch(h -> Math.abs(h[at] - h[n]) <= step)
                        && seen.add(next)) {
                    List<Integer> longer = new ArrayList<>(row);
                    longer.add(next);
                    open.add(longer);
                }
            }
        }
        return null;
    }

    int way(int from, int to, int m, int step, int q) {
        if (noStone(from) || noStone(to) || noMonth(m) || q < -1) {
            return -1;
        }
        if (out(step, 0, 999)) {
            return -2;
        }
        List<Integer> row = wayOf(from, to, m, m, step);
        if (row == null || q >= row.size()) {
            return -9;
        }
        return q == -1 ? row.size() - 1 : row.get(q);
    }

    int holds(int from, int to, int first, int last, int step) {
        if (noStone(from) || noStone(to) || noMonth(first) || noMonth(last) || last < first) {
            return -1;
        }
        if (out(step, 0, 999)) {
            return -2;
        }
        List<Integer> row = wayOf(from, to, first, last, step);
        return row == null ? -9 : row.size() - 1;
    }

    int leastStep(int from, int to, int m) {
        if (noStone(from) || noStone(to) || noMonth(m)) {
            return -1;
        }
        int step = 0;
        while (wayOf(from, to, m, m, step) == null) {
            step++;
        }
        return step;
    }

    private List<Integer> stall(int c) {
        return List.of(c, c + 1, c + wide, c + wide + 1);
    }

    private boolean noStall(int c) {
        return noStone(c) || c % wide == wide - 1 || c / wide == high - 1;
    }

    int wedges(int c, int m) {
        if (noStall(c) || noMonth(m)) {
            return -1;
        }
        int[] h = heights(m);
        int top = stall(c).stream().mapToInt(s -> h[s]).max().getAsInt();
        return stall(c).stream().mapToInt(s -> top - h[s]).sum();
    }

    private int refusal(int m, boolean outside) {
        return noMonth(m) ? -1 : outside ? -2 : stones() == 0 ? -3 : 0;
    }

    /** The least of rows by their numbers, from the first one on. */
    private static int[] leastOf(List<int[]> found) {
        return found.stream().min(Arrays::compare).orElse(null);
    }

    int best(int m, int what) {
        int refusal = refusal(m, out(what, 0, 1));
        if (refusal != 0) {
            return refusal;
        }
        List<int[]> found = new ArrayList<>();
        for (int c = 0; c < stones(); c++) {
            if (!noStall(c)) {
                found.add(new int[] {wedges(c, m), c});
            }
        }
        return leastOf(found)[1 - what];
    }

    int two(int m, int what) {
        int refusal = refusal(m, out(what, 0, 2));
        if (refusal != 0) {
            return refusal;
        }
        List<int[]> found = new ArrayList<>();
        for (int a = 0; a < stones(); a++) {
            for (int b = a + 1; b < stones(); b++) {
                if (!noStall(a) && !noStall(b) && stall(a).stream().noneMatch(stall(b)::contains)) {
                    found.add(new int[] {wedges(a, m) + wedges(b, m), a, b});
                }
            }
        }
        int[] least = leastOf(found);
        return least == null ? -9 : least[(what + 1) % 3];
    }

    int oval(int m, int apart, int what) {
        int refusal = refusal(m, out(apart, 0, 999) || out(what, 0, 2));
        if (refusal != 0) {
            return refusal;
        }
        int[] h = heights(m);
        List<int[]> found = new ArrayList<>();
        for (int top = 0; top < high; top++) {
            for (int bottom = top; bottom < high; bottom++) {
                for (int left = 0; left < wide; left++) {
                    for (int right = left; right < wide; right++) {
                        List<Integer> in = new ArrayList<>();
                        for (int r = top; r <= bottom; r++) {
                            for (int c = left; c <= right; c++) {
                                in.add(h[r * wide + c]);
                            }
                        }
                        in.sort(null);
                        if (in.get(in.size() - 1) - in.get(0) <= apart) {
                            found.add(new int[] {-in.size(), top * wide + left, bottom * wide + right});
                        }
                    }
                }
            }
        }
        int[] least = leastOf(found);
        return what == 0 ? -least[0] : least[what];
    }

    /** Floods from the edge inwards, the lowest level first. */
    private int[] levels(int[] h) {
        int[] level = new int[h.length];
        Arrays.fill(level, -1);
        PriorityQueue<int[]> open = new PriorityQueue<>(Arrays::compare);
        for (int c = 0; c < h.length; c++) {
            if (c < wide || c >= h.length - wide || c % wide == 0 || c % wide == wide - 1) {
                level[c] = h[c];
                open.add(new int[] {h[c], c});
            }
        }
        while (!open.isEmpty()) {
            int[] at = open.poll();
            for (int c = 0; c < h.length; c++) {
                if (beside(at[1], c) && level[c] < 0) {
                    level[c] = Math.max(at[0], h[c]);
                    open.add(new int[] {level[c], c});
                }
            }
        }
        return level;
    }

    private int poolOf(int[] h) {
        return Arrays.stream(levels(h)).sum() - Arrays.stream(h).sum();
    }

    int depth(int c, int m) {
        return noStone(c) || noMonth(m) ? -1 : levels(heights(m))[c] - heights(m)[c];
    }

    int pool(int m) {
        int refusal = refusal(m, false);
        return refusal != 0 ? refusal : poolOf(heights(m));
    }

    int drain(int m, int by, int what) {
        int refusal = refusal(m, out(by, 1, 99) || out(what, 0, 1));
        if (refusal != 0) {
            return refusal;
        }
        List<int[]> found = new ArrayList<>();
        for (int c = 0; c < stones(); c++) {
            int[] h = heights(m);
            h[c] += by;
            found.add(new int[] {poolOf(h), c});
        }
        return leastOf(found)[1 - what];
    }

    int statue(int c, int other, int apart) {
        if (noStone(c) || noStone(other)) {
            return -1;
        }
        if (out(apart, 0, 999)) {
            return -2;
        }
        if (!beside(c, other)) {
            return -3;
        }
        for (int m = 0; m < 12; m++) {
            if (Math.abs(heights(m)[c] - heights(m)[other]) > apart) {
                return m;
            }
        }
        return -9;
    }

    int nights(int m, int k, int apart) {
        int refusal = refusal(m, out(k, 1, 9) || out(apart, 0, 999));
        if (refusal != 0) {
            return refusal;
        }
        List<int[]> all = new ArrayList<>();
        for (int c = 0; c < stones(); c++) {
            all.add(new int[] {heights(m)[c], c});
        }
        for (int night = 0; night <= 500; night++) {
            all.sort(Arrays::compare);
            if (all.get(all.size() - 1)[0] - all.get(0)[0] <= apart) {
                return night;
            }
            for (int n = 0; n < k && n < all.size(); n++) {
                all.get(n)[0]++;
            }
        }
        return -9;
    }

    int reading(int c, int m, int read) {
        if (noStone(c) || noMonth(m)) {
            return -1;
        }
        if (out(read, 0, 999)) {
            return -2;
        }
        if (readings.size() == 10) {
            return -4;
        }
        readings.add(new int[] {c, m, read});
        return readings.size() - 1;
    }

    int back(int k) {
        if (out(k, 0, readings.size())) {
            return -2;
        }
        readings.subList(readings.size() - k, readings.size()).clear();
        return readings.size();
    }

    int kinds(int c) {
        if (noStone(c)) {
            return -1;
        }
        int set = 0;
        for (int as = 0; as < 3; as++) {
            int k = as;
            if (readings.stream().filter(r -> r[0] == c).allMatch(r -> high(k, c, r[1]) == r[2])) {
                set += 1 << as;
            }
        }
        return set;
    }

    int sheet(int k, int sort, int n) {
        fault = 0;
        if (out(k, 0, 3)) {
            return -1;
        }
        if (out(sort, 0, 2) || n > 80) {
            return -2;
        }
        try {
            rows[k] = sort == 0 ? new byte[n] : sort == 1 ? new short[n] : new int[n];
        } catch (RuntimeException e) {
            return failed(numberOf(e));
        }
        return 1;
    }

    int lose(int k) {
        if (out(k, 0, 3)) {
            return -1;
        }
        int had = rows[k] == null ? 0 : 1;
        rows[k] = null;
        return had;
    }

    int put(int k, int i, int v) {
        fault = 0;
        if (out(k, 0, 3)) {
            return -1;
        }
        try {
            if (rows[k] instanceof byte[] b) {
                b[i] = (byte) v;
            } else if (rows[k] instanceof short[] s) {
                s[i] = (short) v;
            } else {
                ((int[]) rows[k])[i] = v;
            }
        } catch (RuntimeException e) {
            return failed(numberOf(e));
        }
        return 1;
    }

    long cell(int k, int i, int sort) {
        fault = 0;
        if (out(k, 0, 3) || out(sort, 0, 2)) {
            return Long.MIN_VALUE;
        }
        try {
            if (sort == 0) {
                return ((byte[]) rows[k])[i];
            }
            return sort == 1 ? ((short[]) rows[k])[i] : ((int[]) rows[k])[i];
        } catch (RuntimeException e) {
            failed(numberOf(e));
            return Long.MIN_VALUE;
        }
    }

    int copy(int k, int i, int other, int j, int n) {
        fault = 0;
        if (out(k, 0, 3) || out(other, 0, 3)) {
            return -1;
        }
        try {
            System.arraycopy(rows[k], i, rows[other], j, n);
        } catch (RuntimeException e) {
            return failed(numberOf(e));
        }
        return n;
    }

    private void leave(int... bodies) {
        for (int body : bodies) {
            trace = trace * 31 + body;
        }
    }

    int tell(int c) {
        if (noStone(c)) {
            return -1;
        }
        leave(new int[][] {{1}, {2, 1}, {3, 2, 1, 1}}[kind[c]]);
        return new int[] {ground[c], ground[c] + 100, 2 * ground[c] + 100}[kind[c]];
    }

    int tread(int c) {
        if (noStone(c)) {
            return -1;
        }
        leave(kind[c] == 2 ? 5 : 4);
        return kind[c] == 2 ? 50 : c;
    }

    int as(int c, int as) {
        fault = 0;
        if (noStone(c)) {
            return -1;
        }
        if (out(as, 0, 2)) {
            return -2;
        }
        boolean isOne = as == 0 || kind[c] == as || kind[c] == 2 && as == 1;
        return isOne ? 1 : failed(2);
    }

    int trace() {
        return trace;
    }

    int fault() {
        return fault;
    }

    int many(int what) {
        return what == 0 ? stones() : what == 1 ? wide : what == 2 ? readings.size() : -2;
    }
}
