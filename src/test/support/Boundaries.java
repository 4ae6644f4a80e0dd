import java.io.IOException;
import java.lang.reflect.InvocationTargetException;
import java.lang.reflect.Method;
import java.nio.file.Files;
import java.nio.file.Path;
import java.util.Arrays;
import java.util.Comparator;
import java.util.function.IntSupplier;

/**
 * What the boundary tests share. A test is a static method named after its promise (promise02_letter_..) that
 * bears the sentence of the document it is about; it is run on its own, and its sentence must stand in the document
 * (where there is no document beside the project, the class can still be tested: then sentences are not looked up).
 */
abstract class Boundaries {
    static final int NONE = LentGallery.NONE, UNKNOWN = LentGallery.UNKNOWN, OUTSIDE = LentGallery.OUTSIDE,
        STATE = LentGallery.STATE, FULL = LentGallery.FULL;
    static final int LOW = Integer.MIN_VALUE, HIGH = Integer.MAX_VALUE;
    static final int TENANT = 0, SCHOOL = 1, COUPLE = 2, BAKER = 3, CHAPEL = 4;

    private static final Path DOCUMENT = Path.of("../shared/DOC.md");
    private static String test = "";
    private static int wrong = 0;

    static void runAll(Class<?> tests, int firstPromise, int lastPromise) {
        Method[] methods = tests.getDeclaredMethods();
        Arrays.sort(methods, Comparator.comparing(Method::getName));
        int[] testsOf = new int[24];
        for (Method m : methods) {
            if (m.isAnnotationPresent(Says.class)) {
                runOne(m);
                testsOf[promiseOf(m)]++;
            }
        }
        test = tests.getName();
        int all = 0;
        for (int p = firstPromise; p <= lastPromise; p++) {
            all += testsOf[p];
            dueTrue("promise " + p + " has a test", testsOf[p] > 0);
        }
        System.out.println(all + " tests, " + wrong + " answers are not as due");
        if (wrong != 0) {
            System.exit(1);
        }
    }

    private static int promiseOf(Method m) {
        return Integer.parseInt(m.getName().substring("promise".length(), "promise".length() + 2));
    }

    private static void runOne(Method m) {
        test = m.getName();
        String words = m.getAnnotation(Says.class).value();
        dueTrue("the document says: " + words, !Files.exists(DOCUMENT) || wordsAround(promiseOf(m)).contains(words));
        try {
            m.setAccessible(true);
            m.invoke(null);
        } catch (InvocationTargetException e) {
            dueTrue("nothing is thrown: " + e.getCause(), false);
        } catch (IllegalAccessException e) {
            dueTrue("the test can be run: " + e, false);
        }
    }

    /** What stands under a promise's own heading, and what stands ahead of all promises. */
    private static String wordsAround(int promise) {
        try {
            String[] parts = Files.readString(DOCUMENT).replaceAll("\\s+", " ").split("## Promise ");
            return promise < parts.length ? parts[0] + parts[promise] : parts[0];
        } catch (IOException e) {
            return "";
        }
    }

    static void due(String call, long got, long want) {
        if (got != want) {
            wrong++;
            System.out.println(test + ": " + call + " answered " + got + ", due is " + want);
        }
    }

    static void dueTrue(String what, boolean holds) {
        if (!holds) {
            wrong++;
            System.out.println(test + ": not so: " + what);
        }
    }

    /** A refused call answers as told and changes nothing. */
    static void refuses(LentGallery g, String call, IntSupplier answer, int want) {
        long ahead = g.digest();
        due(call, answer.getAsInt(), want);
        due(call + " has changed the digest, which", g.digest(), ahead);
    }

    static void dueStrong(LentGallery g, int... want) {
        for (int p = 0; p < want.length; p++) {
            due("place(" + p + ", 0)", g.place(p, 0), want[p]);
        }
    }

    static void write(LentGallery g, String text) {
        for (char c : text.toCharArray()) {
            g.letter(c);
        }
    }

    static LentGallery page(String text) {
        LentGallery g = new LentGallery();
        write(g, text);
        return g;
    }

    static LentGallery read(String text) {
        LentGallery g = page(text);
        g.gallery();
        return g;
    }

    static void days(LentGallery g, int n) {
        for (int i = 0; i < n; i++) {
            g.day();
        }
    }

    static void propTimes(LentGallery g, int place, int n) {
        for (int i = 0; i < n; i++) {
            g.prop(place);
        }
    }

    /** Five tenants of one kind in one place: as many as there may be. */
    static void fillWith(LentGallery g, int kind, int place) {
        for (int i = 0; i < 5; i++) {
            g.tenant(kind, place);
        }
    }
}
