import java.io.IOException;
import java.lang.management.ManagementFactory;
import java.lang.reflect.Constructor;
import java.lang.reflect.Field;
import java.lang.reflect.Method;
import java.lang.reflect.Modifier;
import java.nio.file.Files;
import java.nio.file.Path;
import java.util.ArrayList;
import java.util.List;
import java.util.Set;
import java.util.TreeSet;
import java.util.regex.Matcher;
import java.util.regex.Pattern;

/** The public face, and what of LANGUAGE.md can be seen from outside or by words of the source. */
public final class FaceTest {
    private static final Path SOURCE = Path.of("src/main/java/SecretSquares.java");
    private static final Set<String> METHODS = Set.of("say 1", "wipe 0", "take 1", "worth 2", "like 3", "letter 2",
            "hide 1", "find 1", "undo 0", "times 1", "same 1", "length 1", "shift 4", "good 0", "order 2", "climb 3",
            "image 1", "restore 1", "count 1");
    private static final Set<String> CONSTANTS = Set.of("OUTSIDE", "STATE", "FULL", "NONE", "FAULT");
    private static final String[] RULED_OUT = {"throw", "throws", "try", "catch", "synchronized", "assert", "import",
        "package", "->", "::", "Exact", "System.currentTimeMillis", "System.nanoTime", "Random", "Thread"};

    private static int wrong = 0;

    private static void due(String what, Object got, Object want) {
        if (!got.equals(want)) {
            wrong++;
            System.out.println(what + ": is " + got + ", due is " + want);
        }
    }

    private static void constants() {
        due("OUTSIDE", SecretSquares.OUTSIDE, -2);
        due("STATE", SecretSquares.STATE, -3);
        due("FULL", SecretSquares.FULL, -4);
        due("NONE", SecretSquares.NONE, -6);
        due("FAULT", SecretSquares.FAULT, -7);
        for (Field f : SecretSquares.class.getDeclaredFields()) {
            int m = f.getModifiers();
            if (Modifier.isPrivate(m)) {
                due(f.getName() + " is static and not final", Modifier.isStatic(m) && !Modifier.isFinal(m), false);
            } else {
                due(f.getName() + " is of the face", CONSTANTS.contains(f.getName()), true);
                due(f.getName() + " is a public constant", m, Modifier.PUBLIC | Modifier.STATIC | Modifier.FINAL);
            }
        }
    }

    private static void methods() {
        Set<String> open = new TreeSet<>();
        for (Method m : SecretSquares.class.getDeclaredMethods()) {
            if (!Modifier.isPrivate(m.getModifiers())) {
                open.add(m.getName() + " " + m.getParameterCount());
                due(m.getName() + " is public alone", m.getModifiers(), Modifier.PUBLIC);
                due(m.getName() + " answers", m.getReturnType(), int.class);
                for (Class<?> type : m.getParameterTypes()) {
                    due(m.getName() + " takes", type, int.class);
                }
            }
        }
        due("the methods", open, METHODS);
        Constructor<?>[] makers = SecretSquares.class.getDeclaredConstructors();
        due("constructors", makers.length, 1);
        due("the constructor is public", makers[0].getModifiers(), Modifier.PUBLIC);
        due("it takes nothing", makers[0].getParameterCount(), 0);
        due("the class", SecretSquares.class.getModifiers(), Modifier.PUBLIC | Modifier.FINAL);
    }

    private static void namesInside() {
        Set<String> taken = new TreeSet<>();
        for (String method : METHODS) {
            taken.add(method.split(" ")[0]);
        }
        List<Class<?>> classes = new ArrayList<>(List.of(SecretSquares.class.getDeclaredClasses()));
        for (Class<?> inside : classes) {
            due(inside + " is static", Modifier.isStatic(inside.getModifiers()), true);
            for (Method m : inside.getDeclaredMethods()) {
                due(inside + "." + m.getName() + " has a name of the face", taken.contains(m.getName()), false);
            }
        }
        for (Method m : SecretSquares.class.getDeclaredMethods()) {
            boolean hidden = Modifier.isPrivate(m.getModifiers());
            due("private " + m.getName() + " has a name of the face", hidden && taken.contains(m.getName()), false);
        }
    }

    private static void words() throws IOException {
        String source = Files.readString(SOURCE).replaceAll("(?s)/\\*.*?\\*/", "").replaceAll("//.*", "");
        for (String word : RULED_OUT) {
            String edge = Character.isLetter(word.charAt(0)) ? "\\b" : "";
            Matcher m = Pattern.compile(edge + Pattern.quote(word) + edge).matcher(source);
            due("the source has " + word, m.find(), false);
        }
    }

    private static void use(SecretSquares x) {
        for (int sign = 0; sign < 48; sign++) {
            x.say('a' + sign * 7 % 16);
        }
        x.take(0);
        for (int way = -1; way <= 6; way++) {
            x.hide(way);
            x.find(way);
        }
        x.like(0, 7, 1);
        x.worth(3, 5);
        x.image(0);
        x.undo();
        x.restore(0);
        for (int what = -2; what <= 5; what++) {
            x.letter(what, 0);
            x.order(6, what);
            x.climb(77, 60, what);
            x.shift(3, 1, 2, what);
            x.count(what);
            x.length(what);
            x.same(what);
            x.times(what);
        }
        x.good();
    }

    /** All calls of a run live in one room, so none may fill it: only the constructor makes rows. */
    private static void room() {
        if (!(ManagementFactory.getThreadMXBean() instanceof com.sun.management.ThreadMXBean meter)) {
            return;
        }
        SecretSquares x = new SecretSquares();
        use(x);
        long thread = Thread.currentThread().getId();
        long before = meter.getThreadAllocatedBytes(thread);
        long idle = meter.getThreadAllocatedBytes(thread) - before;
        before = meter.getThreadAllocatedBytes(thread);
        for (int i = 0; i < 4; i++) {
            use(x);
        }
        long used = meter.getThreadAllocatedBytes(thread) - before - idle;
        // Some 400 calls: one small object in each would be above this by far.
        due("calls make objects", used > 2000, false);
    }

    public static void main(String[] args) throws IOException {
        constants();
        methods();
        namesInside();
        words();
        room();
        System.out.println(wrong == 0 ? "the face is as due" : wrong + " things are not as due");
        if (wrong != 0) {
            System.exit(1);
        }
    }
}
