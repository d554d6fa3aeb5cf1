import java.lang.reflect.InvocationTargetException;
import java.lang.reflect.Method;
import java.util.Arrays;
import java.util.Comparator;
import java.util.stream.IntStream;

/** Runs the tests of a class that are named after a promise, and tells each answer that is not the one due. */
final class Checks {
    static final int OUTSIDE = -2, STATE = -3, FULL = -4, NONE = -6, FAULT = -7;

    private static String running = "";
    private static int asked = 0;
    private static int wrong = 0;

    private Checks() {
    }

    static void due(String call, Object got, Object want) {
        asked++;
        if (!got.equals(want)) {
            tell(call + " answered " + got + ", due is " + want);
        }
    }

    private static void tell(String what) {
        wrong++;
        System.out.println(running + ": " + what);
    }

    /** The first values outside on either side, and further ones that a narrower number would take for inside. */
    static int[] beyond(int least, int most) {
        return IntStream.of(least - 1, most + 1, least - 16, most + 16, least - 32, least + 32, least - 256, least + 256,
                        least - 65536, least + 65536, Integer.MIN_VALUE, Integer.MIN_VALUE + 1, Integer.MAX_VALUE)
                .filter(v -> v < least || v > most)
                .distinct()
                .toArray();
    }

    /** Found by their names, so that none is forgotten: promise07_... belongs to promise 7. */
    static void run(Class<?> tests, int firstPromise, int lastPromise) {
        Method[] methods = Arrays.stream(tests.getDeclaredMethods())
                .filter(m -> m.getName().startsWith("promise"))
                .sorted(Comparator.comparing(Method::getName))
                .toArray(Method[]::new);
        for (Method test : methods) {
            runOne(test);
        }
        running = tests.getName();
        for (int p = firstPromise; p <= lastPromise; p++) {
            String begin = String.format("promise%02d_", p);
            if (Arrays.stream(methods).noneMatch(m -> m.getName().startsWith(begin))) {
                tell("no test of promise " + p);
            }
        }
        System.out.println(methods.length + " tests, " + asked + " answers asked, " + wrong + " not as due");
        if (wrong != 0) {
            System.exit(1);
        }
    }

    private static void runOne(Method test) {
        running = test.getName();
        int before = asked;
        try {
            test.invoke(null);
        } catch (InvocationTargetException e) {
            tell("threw " + e.getCause());
        } catch (IllegalAccessException e) {
            tell("can't be run: " + e);
        }
        if (asked == before) {
            tell("asked nothing");
        }
    }
}
