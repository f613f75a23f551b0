import java.io.IOException;
import java.lang.reflect.Array;
import java.lang.reflect.Constructor;
import java.lang.reflect.Field;
import java.lang.reflect.Member;
import java.lang.reflect.Method;
import java.lang.reflect.Modifier;
import java.nio.file.Files;
import java.nio.file.Path;
import java.util.Arrays;
import java.util.Collections;
import java.util.HashSet;
import java.util.IdentityHashMap;
import java.util.Set;
import java.util.TreeSet;
import java.util.regex.Matcher;
import java.util.regex.Pattern;

/** The public face, and those rules of ../shared/LANGUAGE.md that can be seen from outside or in the text. */
public final class FaceTest {
    private static final String METHODS = "square(4)int ofStone(2)int month(3)int lift(2)int height(2)int "
            + "rises(2)int way(5)int holds(5)int leastStep(3)int wedges(2)int best(2)int two(2)int oval(3)int "
            + "depth(2)int pool(1)int drain(3)int statue(3)int nights(3)int reading(3)int back(1)int kinds(1)int "
            + "sheet(3)int lose(1)int put(3)int cell(3)long copy(5)int tell(1)int tread(1)int as(2)int trace(0)int "
            + "fault(0)int many(1)int";

    public static void main(String[] args) throws IOException, IllegalAccessException {
        constants();
        face();
        classesInside();
        room();
        words();
        Check.end("FaceTest");
    }

    private static void constants() throws IllegalAccessException {
        Check.same("UNKNOWN", BreathSquare.UNKNOWN, -1);
        Check.same("OUTSIDE", BreathSquare.OUTSIDE, -2);
        Check.same("STATE", BreathSquare.STATE, -3);
        Check.same("FULL", BreathSquare.FULL, -4);
        Check.same("NONE", BreathSquare.NONE, -9);
        Check.same("LOST", BreathSquare.LOST, Long.MIN_VALUE);
        Set<String> shown = new TreeSet<>();
        for (Field field : BreathSquare.class.getDeclaredFields()) {
            if (isShown(field)) {
                shown.add(field.getName());
            }
        }
        Check.that("fields shown: " + shown,
                shown.equals(Set.of("UNKNOWN", "OUTSIDE", "STATE", "FULL", "NONE", "LOST")));
    }

    private static boolean isShown(Member member) {
        return !Modifier.isPrivate(member.getModifiers()) && !member.isSynthetic();
    }

    private static void face() {
        Set<String> shown = new HashSet<>();
        Set<String> names = new HashSet<>();
        for (Method method : BreathSquare.class.getDeclaredMethods()) {
            if (isShown(method)) {
                Check.that("public: " + method, Modifier.isPublic(method.getModifiers()));
                Check.that("of ints: " + method,
                        Arrays.stream(method.getParameterTypes()).allMatch(type -> type == int.class));
                shown.add(method.getName() + "(" + method.getParameterCount() + ")" + method.getReturnType());
                names.add(method.getName());
            }
        }
        Check.that("methods shown: " + shown, shown.equals(Set.of(METHODS.split(" "))));
        for (Method method : BreathSquare.class.getDeclaredMethods()) {
            Check.that("a name of its own: " + method, isShown(method) || !names.contains(method.getName()));
        }
        Constructor<?>[] made = BreathSquare.class.getDeclaredConstructors();
        Check.same("constructors", made.length, 1);
        Check.that("public constructor", Modifier.isPublic(made[0].getModifiers()) && made[0].getParameterCount() == 0);
        Check.that("public, final", Modifier.isPublic(BreathSquare.class.getModifiers())
                && Modifier.isFinal(BreathSquare.class.getModifiers()));
    }

    private static void classesInside() {
        Class<?>[] inside = BreathSquare.class.getDeclaredClasses();
        Check.that("at most twelve classes", inside.length + 1 <= 12);
        for (Class<?> one : inside) {
            Check.that("static: " + one, Modifier.isStatic(one.getModifiers()));
            Check.that("not public: " + one,
                    !Modifier.isPublic(one.getModifiers()) && !Modifier.isProtected(one.getModifiers()));
            fields(one);
        }
        fields(BreathSquare.class);
    }

    private static void fields(Class<?> one) {
        int own = 0;
        for (Field field : one.getDeclaredFields()) {
            if (Modifier.isStatic(field.getModifiers())) {
                Check.that("final: " + field, Modifier.isFinal(field.getModifiers()));
                Check.that("a constant: " + field, field.getType().isPrimitive());
            } else {
                own++;
            }
        }
        Check.that("at most twenty fields: " + one, own <= 20);
    }

    /** What one object is made of: some thousands of them fit into a run's 600,000 objects, 7.3 million cells. */
    private static void room() throws IllegalAccessException {
        Set<Object> objects = Collections.newSetFromMap(new IdentityHashMap<>());
        int cells = cellsOf(new BreathSquare(), objects);
        Check.that("at most 60 objects and arrays: " + objects.size(), objects.size() <= 60);
        Check.that("at most 1000 fields and elements: " + cells, cells <= 1000);
    }

    private static int cellsOf(Object part, Set<Object> seen) throws IllegalAccessException {
        if (part == null || !seen.add(part)) {
            return 0;
        }
        int cells = 0;
        if (part.getClass().isArray()) {
            cells = Array.getLength(part);
            for (int k = 0; part instanceof Object[] parts && k < parts.length; k++) {
                cells += cellsOf(parts[k], seen);
            }
        }
        for (Class<?> of = part.getClass(); of != null && of.getNestHost() == BreathSquare.class; of = of.getSuperclass()) {
            for (Field field : of.getDeclaredFields()) {
                if (!Modifier.isStatic(field.getModifiers())) {
                    field.setAccessible(true);
                    cells += 1 + (field.getType().isPrimitive() ? 0 : cellsOf(field.get(part), seen));
                }
            }
        }
        return cells;
    }

    private static void words() throws IOException {
        String text = Files.readString(Path.of("src/main/java/BreathSquare.java"));
        String code = text.replaceAll("(?s)/\\*.*?\\*/", "").replaceAll("//[^\n]*", "");
        Matcher wrong = Pattern.compile("\\b(throw|throws|try|catch|finally|synchronized|assert|import|package|var|"
                + "hashCode|equals|toString|Random|Thread|System\\.(?!arraycopy)\\w+|\\w+Exact)\\b|->|::|@")
                .matcher(code);
        while (wrong.find()) {
            Check.that("not in the language: " + wrong.group(), false);
        }
        Check.that("plain signs", text.chars().allMatch(sign -> sign == '\n' || sign >= 32 && sign < 127));
        libraryAsListed(code);
        objectsAreMadeAtFirst(code);
        methodsStayShort(code);
    }

    /** Of the library what rule 4 lists, as far as it is used here, and what the document's face has. */
    private static void libraryAsListed(String code) {
        Set<String> listed = Set.of("Math.abs", "Math.max", "Math.min", "System.arraycopy", "Long.MIN_VALUE");
        Matcher used = Pattern.compile("\\b(Integer|Long|Short|Byte|Character|Boolean|Double|Float|Math|StrictMath|"
                + "System|Arrays|String|StringBuilder|Objects|List|ArrayList)\\b(\\.\\w+)?").matcher(code);
        while (used.find()) {
            Check.that("in the library's list: " + used.group(), listed.contains(used.group()));
        }
        Check.that("no library by its package's name", !Pattern.compile("\\bjavax?\\.").matcher(code).find());
    }

    /** All calls of a run live in one room, so only what an object is made of may be made. */
    private static void objectsAreMadeAtFirst(String code) {
        for (String line : code.split("\n")) {
            Check.that("made with its object alone: " + line,
                    !line.contains("new ") || line.trim().startsWith("private final "));
        }
    }

    /** A method's text goes from a line that opens it to the brace at the same depth. */
    private static void methodsStayShort(String code) {
        String[] lines = code.split("\n");
        for (int k = 0; k < lines.length; k++) {
            Matcher opening = Pattern.compile("^( {4}| {8})\\w.*\\) \\{$").matcher(lines[k]);
            if (opening.matches()) {
                int end = k;
                while (end < lines.length && !lines[end].equals(opening.group(1) + "}")) {
                    end++;
                }
                Check.that("at most sixty lines: " + lines[k], end - k + 1 <= 60);
                String parameters = lines[k].substring(lines[k].indexOf('('));
                Check.that("at most seven parameters: " + lines[k], parameters.split(",").length <= 7);
            }
        }
    }
}
