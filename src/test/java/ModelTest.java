import java.lang.reflect.Method;
import java.util.Arrays;
import java.util.Comparator;
import java.util.Random;

/**
 * Runs of calls, the same ones in every run of the test, on the class and on Model: all answers are alike,
 * up to an object's 512th call; what later calls answer is free, but they do not throw.
 */
public final class ModelTest {
    private static final int RUNS = 500;
    private static final int CALLS = 512;
    private static final int LATER_CALLS = 30;
    private static final int[] ODD = {-1, -2, Integer.MIN_VALUE, Integer.MAX_VALUE, 12, 30, 80, 81, 100, 999, 1000};

    private final Random chance;
    private final BreathSquare real = new BreathSquare();
    private final Model model = new Model();
    private int made;

    private ModelTest(long seed) {
        chance = new Random(seed);
    }

    public static void main(String[] args) throws ReflectiveOperationException {
        for (int seed = 0; seed < RUNS; seed++) {
            new ModelTest(seed).play(seed);
        }
        Check.end("ModelTest");
    }

    private void play(int seed) throws ReflectiveOperationException {
        Method[] calls = Arrays.stream(BreathSquare.class.getDeclaredMethods())
                .filter(m -> java.lang.reflect.Modifier.isPublic(m.getModifiers()))
                .sorted(Comparator.comparing(Method::getName)).toArray(Method[]::new);
        if (chance.nextInt(8) != 0) {
            layText();
        }
        while (made < CALLS + LATER_CALLS) {
            if (chance.nextInt(80) == 0) {
                layText();
            }
            Method call = calls[chance.nextInt(calls.length)];
            ask(seed, call.getName(), numbersFor(call.getName(), call.getParameterCount()));
        }
    }

    private void ask(int seed, String name, Object... numbers) throws ReflectiveOperationException {
        Class<?>[] ints = new Class<?>[numbers.length];
        Arrays.fill(ints, int.class);
        Number got = (Number) BreathSquare.class.getDeclaredMethod(name, ints).invoke(real, numbers);
        made++;
        if (made <= CALLS) {
            Number due = (Number) Model.class.getDeclaredMethod(name, ints).invoke(model, numbers);
            Check.same("run " + seed + ": " + name + Arrays.toString(numbers), got.longValue(), due.longValue());
        }
    }

    private void layText() throws ReflectiveOperationException {
        int high = 2 + chance.nextInt(4);
        int wide = 2 + chance.nextInt(5);
        int steepness = 1 + chance.nextInt(10);
        StringBuilder text = new StringBuilder("q").append(high).append(wide);
        for (int r = 0; r < high; r++) {
            text.append(';');
            for (int c = 0; c < wide; c++) {
                text.append("scf".charAt(chance.nextInt(3))).append(chance.nextInt(steepness));
            }
        }
        if (chance.nextInt(4) == 0) {
            text.setCharAt(chance.nextInt(text.length()), "q;scf0123456789x".charAt(chance.nextInt(16)));
        }
        if (chance.nextInt(8) == 0) {
            text.setLength(chance.nextInt(text.length()));
        }
        if (chance.nextInt(8) == 0) {
            text.append("q;s1".charAt(chance.nextInt(4)));
        }
        int sort = chance.nextInt(3);
        int from = chance.nextInt(3);
        ask(-1, "sheet", 0, sort, from + text.length());
        for (int p = 0; p < text.length(); p++) {
            ask(-1, "put", 0, from + p, (int) text.charAt(p));
        }
        ask(-1, "square", 0, sort, from, text.length());
        for (int m = 0; m < 12; m++) {
            ask(-1, "month", m, chance.nextInt(10), chance.nextInt(10));
        }
    }

    private Object[] numbersFor(String name, int count) {
        Object[] numbers = new Object[count];
        for (int k = 0; k < count; k++) {
            numbers[k] = chance.nextInt(25) == 0 ? ODD[chance.nextInt(ODD.length)] : usual(name, k);
        }
        if (name.equals("reading") && chance.nextInt(4) != 0) {
            int c = stone();
            int swell = chance.nextBoolean() ? 0 : model.height(c, 0) - model.ofStone(c, 1) * 10;
            numbers[0] = c;
            numbers[1] = 0;
            numbers[2] = Math.max(0, model.ofStone(c, 1) * 10 + swell);
        }
        if (name.equals("statue") && chance.nextInt(4) != 0) {
            int away = chance.nextBoolean() ? 1 : model.many(1);
            numbers[1] = (int) numbers[0] + (chance.nextBoolean() ? away : -away);
        }
        return numbers;
    }

    private int stone() {
        return chance.nextInt(Math.max(1, model.many(0)));
    }

    /** Mostly numbers that the call takes. */
    private int usual(String name, int k) {
        int month = chance.nextInt(12);
        int apart = chance.nextInt(chance.nextBoolean() ? 60 : 250);
        switch (name + k) {
            case "square0": case "sheet0": case "put0": case "cell0": case "copy0": case "copy2":
                return chance.nextInt(4);
            case "lose0":
                return 1 + chance.nextInt(4);
            case "sheet1": case "cell2": case "square1": case "as1":
                return chance.nextInt(3);
            case "sheet2": case "put1": case "cell1": case "copy1": case "copy3": case "copy4":
                return chance.nextInt(12) - 1;
            case "square2": case "square3":
                return chance.nextInt(70);
            case "month0": case "height1": case "way2": case "leastStep2": case "wedges1": case "best0":
            case "two0": case "oval0": case "depth1": case "pool0": case "drain0": case "nights0": case "reading1":
                return month;
            case "holds2":
                return chance.nextInt(6);
            case "holds3":
                return 5 + chance.nextInt(7);
            case "way3": case "holds4": case "oval1": case "statue2": case "nights2":
                return apart;
            case "way4":
                return chance.nextInt(10) - 1;
            case "lift1": case "drain1":
                return chance.nextInt(100);
            case "nights1": case "month1": case "month2":
                return chance.nextInt(10);
            case "reading2":
                int near = model.height(stone(), month);
                return Math.max(0, near);
            case "two1": case "oval2": case "ofStone1": case "many0":
                return chance.nextInt(3);
            case "best1": case "drain2": case "rises1":
                return chance.nextInt(2);
            case "back0":
                return chance.nextInt(4);
            case "put2":
                return chance.nextInt();
            default:
                return stone();
        }
    }
}
