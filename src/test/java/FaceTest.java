import java.io.IOException;
import java.lang.reflect.Constructor;
import java.lang.reflect.Field;
import java.lang.reflect.Method;
import java.lang.reflect.Modifier;
import java.nio.file.Files;
import java.nio.file.Path;
import java.util.Set;
import java.util.TreeSet;

/** The public face: as the document writes it down, and nothing beside it. */
public final class FaceTest {
    private static final Path SOURCE = Path.of("src/main/java/SecretSquares.java");
    private static final String[] CALLS = {"say(int sign)", "wipe()", "take(int what)", "worth(int letter, int v)",
        "like(int one, int other, int is)", "letter(int what, int i)", "hide(int way)", "find(int way)", "undo()",
        "times(int letter)", "same(int d)", "length(int m)", "shift(int n, int f, int i, int what)", "good()",
        "order(int n, int what)", "climb(int seed, int n, int what)", "image(int k)", "restore(int k)",
        "count(int what)"};
    private static final Set<String> CONSTANTS = Set.of("OUTSIDE", "STATE", "FULL", "NONE", "FAULT");

    private static int wrong = 0;

    private static void due(String what, Object got, Object want) {
        if (!got.equals(want)) {
            wrong++;
            System.out.println(what + ": is " + got + ", due is " + want);
        }
    }

    private static void values() throws ReflectiveOperationException {
        // By reflection: javac writes a constant that is named outright into the test itself.
        due("OUTSIDE", SecretSquares.class.getField("OUTSIDE").getInt(null), -2);
        due("STATE", SecretSquares.class.getField("STATE").getInt(null), -3);
        due("FULL", SecretSquares.class.getField("FULL").getInt(null), -4);
        due("NONE", SecretSquares.class.getField("NONE").getInt(null), -6);
        due("FAULT", SecretSquares.class.getField("FAULT").getInt(null), -7);
    }

    private static void constants() {
        Set<String> open = new TreeSet<>();
        for (Field f : SecretSquares.class.getDeclaredFields()) {
            int m = f.getModifiers();
            if (!Modifier.isPrivate(m)) {
                open.add(f.getName());
                due(f.getName() + " is a public constant", m, Modifier.PUBLIC | Modifier.STATIC | Modifier.FINAL);
                due(f.getName() + " holds", f.getType(), int.class);
            }
        }
        due("the constants", open, new TreeSet<>(CONSTANTS));
    }

    private static void methods() {
        Set<String> face = new TreeSet<>();
        for (String call : CALLS) {
            face.add(call.replaceAll("int \\w+", "int"));
        }
        Set<String> open = new TreeSet<>();
        for (Method m : SecretSquares.class.getDeclaredMethods()) {
            if (!Modifier.isPrivate(m.getModifiers())) {
                open.add(written(m));
                due(m.getName() + " is public alone", m.getModifiers(), Modifier.PUBLIC);
                due(m.getName() + " answers", m.getReturnType(), int.class);
            }
        }
        due("the methods", open, face);
    }

    private static String written(Method m) {
        StringBuilder types = new StringBuilder();
        for (Class<?> type : m.getParameterTypes()) {
            types.append(types.length() == 0 ? "" : ", ").append(type.getSimpleName());
        }
        return m.getName() + "(" + types + ")";
    }

    private static void parameterNames() throws IOException {
        String source = Files.readString(SOURCE);
        for (String call : CALLS) {
            due("public int " + call + " stands in the source", source.contains("    public int " + call + " {"), true);
        }
    }

    private static void maker() {
        Constructor<?>[] makers = SecretSquares.class.getDeclaredConstructors();
        due("constructors", makers.length, 1);
        due("the constructor is public", makers[0].getModifiers(), Modifier.PUBLIC);
        due("it takes nothing", makers[0].getParameterCount(), 0);
        due("the class", SecretSquares.class.getModifiers(), Modifier.PUBLIC | Modifier.FINAL);
        due("the class above it", SecretSquares.class.getSuperclass(), Object.class);
        due("what it implements", SecretSquares.class.getInterfaces().length, 0);
        due("its package", SecretSquares.class.getPackageName(), "");
    }

    public static void main(String[] args) throws IOException, ReflectiveOperationException {
        values();
        constants();
        methods();
        parameterNames();
        maker();
        System.out.println(wrong == 0 ? "the face is as due" : wrong + " things are not as due");
        if (wrong != 0) {
            System.exit(1);
        }
    }
}
