import java.io.IOException;
import java.lang.reflect.InvocationTargetException;
import java.lang.reflect.Method;
import java.lang.reflect.Modifier;
import java.nio.file.Files;
import java.nio.file.Path;
import java.util.ArrayList;
import java.util.Comparator;
import java.util.List;

/**
 * Runs the tests of boundary cases: static methods named p, the promise's number, _ and what is tested, each with the
 * Sentence of the document that it holds the class to.
 */
final class Edges {
    static final int MIN = Integer.MIN_VALUE, MAX = Integer.MAX_VALUE;
    /** The document's numbers, written again so that a wrong constant of the class is not believed. */
    static final int UNKNOWN = -1, OUTSIDE = -2, STATE = -3, FULL = -4, NONE = -9;
    static final int NULL = -11, CAST = -12, INDEX = -13, SIZE = -14;
    static final long LOST = Long.MIN_VALUE;
    private static final String FORM = "p\\d\\d_\\w+";

    private Edges() {
    }

    /** All tests of a class, which has some for each promise from one number to another. */
    static void run(Class<?> tests, int first, int last) throws Exception {
        String document = document();
        List<Method> found = testsOf(tests);
        boolean[] has = new boolean[100];
        for (Method m : found) {
            has[promiseOf(m)] = true;
            Due.within(m.getName() + ": ");
            Due.due("promise " + first + " to " + last, promiseOf(m) >= first && promiseOf(m) <= last);
            quoted(m, document);
            call(m);
        }
        Due.within("");
        for (int promise = first; promise <= last; promise++) {
            Due.due("promise " + promise + " has a test of a boundary case", has[promise]);
        }
        System.out.println(tests.getName() + ": " + found.size() + " boundary cases");
        Due.end(tests.getName());
    }

    /** The document, each gap a single space. */
    static String document() throws IOException {
        return plain(Files.readString(Path.of("../shared/DOC.md")));
    }

    static List<Method> testsOf(Class<?> tests) {
        List<Method> found = new ArrayList<>();
        for (Method m : tests.getDeclaredMethods()) {
            if (m.getName().matches(FORM)) {
                found.add(m);
            }
        }
        found.sort(Comparator.comparing(Method::getName));
        return found;
    }

    static int promiseOf(Method m) {
        return Integer.parseInt(m.getName().substring(1, 3));
    }

    private static void quoted(Method m, String document) {
        Sentence sentence = m.getAnnotation(Sentence.class);
        Due.due("it has a sentence", sentence != null && sentence.value().length > 0);
        if (sentence != null) {
            for (String words : sentence.value()) {
                Due.due("the document says: " + words, document.contains(plain(words)));
            }
        }
    }

    private static void call(Method m) throws IllegalAccessException {
        Due.due("it is static", Modifier.isStatic(m.getModifiers()));
        try {
            m.invoke(null);
        } catch (InvocationTargetException e) {
            Due.due("it threw " + e.getCause(), false);
        }
    }

    static String plain(String text) {
        return text.replaceAll("\\s+", " ");
    }

    /** Numbers that are not 0 .. count - 1: just outside, far outside, such as a cut or a sum could bring inside. */
    static int[] beyond(int count) {
        return new int[] {-1, count, -2, count + 1, NONE, 256, 65536, -256, 1 << 31 | 1, MIN, MAX};
    }

    /** A sheet gets a row of a lane with these numbers. */
    static void write(ChairGrudge x, int sheet, int lane, int... numbers) {
        Due.due("a new row", x.sheet(sheet, lane, numbers.length), 1);
        for (int i = 0; i < numbers.length; i++) {
            Due.due("a cell of it", x.put(sheet, i, numbers[i]), 1);
        }
    }

    /** A row's numbers, and that there are no more. */
    static void holds(String what, ChairGrudge x, int sheet, int lane, int... numbers) {
        for (int i = 0; i < numbers.length; i++) {
            Due.due(what + ", cell " + i, x.cell(sheet, i, lane), numbers[i]);
        }
        Due.due(what + ", no more cells", x.cell(sheet, numbers.length, lane), LOST);
        Due.due(what + ", no more cells by INDEX", x.fault(), 3);
    }

    /** An answer, and the fault that is told of it right after. */
    static void faulty(String what, ChairGrudge x, long got, long want) {
        Due.due(what, got, want);
        Due.due(what + ", fault", x.fault(), want <= NULL && want >= SIZE ? -10 - want : 0);
    }

    static int set(int... numbers) {
        int bits = 0;
        for (int k : numbers) {
            bits |= 1 << k;
        }
        return bits;
    }
}
