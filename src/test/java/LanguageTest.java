import java.io.IOException;
import java.lang.management.ManagementFactory;
import java.lang.reflect.Field;
import java.lang.reflect.Method;
import java.lang.reflect.Modifier;
import java.nio.file.Files;
import java.nio.file.Path;
import java.util.ArrayList;
import java.util.List;
import java.util.Set;
import java.util.TreeSet;
import java.util.regex.Matcher;
import java.util.regex.Pattern;

/** The rules of LANGUAGE.md that can be seen from outside or by words of the source, each with its number. */
public final class LanguageTest {
    private static final Path SOURCE = Path.of("src/main/java/SecretSquares.java");
    private static final String[] RULED_OUT = {"throw", "throws", "try", "catch", "synchronized", "assert", "import",
        "package", "protected", "native", "volatile", "->", "::", "@", "Exact", "hashCode", "toString", "Object",
        "Random", "Thread", "double", "float"};
    /** Rule 4 allows more; a call is added here once it was held against that rule. */
    private static final Set<String> LIBRARY = Set.of("Integer.bitCount", "System.arraycopy");
    private static final Set<String> OWN = Set.of("Desk", "Square", "Worker");
    private static final int MOST_LINES = 60;
    private static final int MOST_PARAMETERS = 7;
    private static final int MOST_CLASSES = 12;
    private static final int MOST_FIELDS = 20;

    private static int wrong = 0;

    private static void due(String what, Object got, Object want) {
        if (!got.equals(want)) {
            wrong++;
            System.out.println(what + ": is " + got + ", due is " + want);
        }
    }

    private static List<Class<?>> classes() {
        List<Class<?>> all = new ArrayList<>(List.of(SecretSquares.class.getDeclaredClasses()));
        all.add(SecretSquares.class);
        return all;
    }

    /** Rules 1 and 2. */
    private static void namesAndClassesInside() {
        Set<String> taken = new TreeSet<>();
        for (Method m : SecretSquares.class.getMethods()) {
            taken.add(m.getName());
        }
        for (Class<?> c : classes()) {
            boolean inside = c != SecretSquares.class;
            due(c + " is inside and not static", inside && !Modifier.isStatic(c.getModifiers()), false);
            due(c + " is inside and public", inside && Modifier.isPublic(c.getModifiers()), false);
            for (Method m : c.getDeclaredMethods()) {
                boolean hidden = inside || Modifier.isPrivate(m.getModifiers());
                due(c + "." + m.getName() + " has a name of the face", hidden && taken.contains(m.getName()), false);
            }
        }
    }

    /** Rules 3, 4, 6 and 13. */
    private static void words(String source) {
        for (String word : RULED_OUT) {
            String edge = Character.isLetter(word.charAt(0)) ? "\\b" : "";
            Matcher m = Pattern.compile(edge + Pattern.quote(word) + edge).matcher(source);
            due("the source has " + word, m.find(), false);
        }
        Matcher call = Pattern.compile("\\b([A-Z]\\w*\\.\\w+)\\(").matcher(source);
        while (call.find()) {
            due(call.group(1) + " is of the library that is used", LIBRARY.contains(call.group(1)), true);
        }
        Matcher made = Pattern.compile("\\bnew (\\w+)([\\[(])").matcher(source);
        while (made.find()) {
            boolean row = made.group(1).equals("int") && made.group(2).equals("[");
            due("new " + made.group(1) + " is a row or one's own", row || OWN.contains(made.group(1)), true);
        }
    }

    /** Rules 5 and 11. */
    private static void fieldsAndParameters() {
        due("too many classes", classes().size() > MOST_CLASSES, false);
        for (Class<?> c : classes()) {
            int fields = 0;
            for (Field f : c.getDeclaredFields()) {
                boolean constant = Modifier.isStatic(f.getModifiers());
                fields += constant ? 0 : 1;
                due(c + "." + f.getName() + " can change", constant && !Modifier.isFinal(f.getModifiers()), false);
            }
            due(c + " has too many fields", fields > MOST_FIELDS, false);
            for (Method m : c.getDeclaredMethods()) {
                due(m + " takes too many", m.getParameterCount() > MOST_PARAMETERS, false);
            }
        }
    }

    /** Rule 11: a method is what begins with a name and a brace and ends with a brace as far in. */
    private static void methodLengths(String source) {
        Pattern head = Pattern.compile("(?m)^( +)(?:\\w[\\w\\[\\]]* )*(\\w+)\\([^;]*\\) \\{$");
        String[] lines = source.split("\n");
        int seen = 0;
        for (int i = 0; i < lines.length; i++) {
            Matcher m = head.matcher(lines[i]);
            if (m.matches() && !Set.of("if", "for", "while", "switch").contains(m.group(2))) {
                int end = i;
                while (end < lines.length && !lines[end].equals(m.group(1) + "}")) {
                    end++;
                }
                due(m.group(2) + " is too long", end - i + 1 > MOST_LINES, false);
                seen++;
            }
        }
        int declared = 1;
        for (Class<?> c : classes()) {
            declared += c.getDeclaredMethods().length;
        }
        due("methods whose length was looked at, and the constructor", seen, declared);
    }

    private static void use(SecretSquares x) {
        for (int sign = 0; sign < 48; sign++) {
            x.say('a' + sign * 7 % 16);
        }
        x.take(0);
        for (int way = -1; way <= 6; way++) {
            x.hide(way);
            x.find(way);
        }
        x.like(0, 7, 1);
        x.worth(3, 5);
        x.image(0);
        x.undo();
        x.restore(0);
        for (int what = -2; what <= 5; what++) {
            x.letter(what, 0);
            x.order(6, what);
            x.climb(77, 60, what);
            x.shift(3, 1, 2, what);
            x.count(what);
            x.length(what);
            x.same(what);
            x.times(what);
        }
        x.good();
        x.wipe();
    }

    /** Rule 12: all calls of a run live in one room, so none may fill it: only the constructor makes rows. */
    private static void room() {
        if (!(ManagementFactory.getThreadMXBean() instanceof com.sun.management.ThreadMXBean meter)) {
            return;
        }
        SecretSquares x = new SecretSquares();
        SecretSquares y = new SecretSquares();
        use(x);
        long thread = Thread.currentThread().getId();
        long before = meter.getThreadAllocatedBytes(thread);
        long idle = meter.getThreadAllocatedBytes(thread) - before;
        before = meter.getThreadAllocatedBytes(thread);
        use(x);
        use(y);
        use(y);
        long used = meter.getThreadAllocatedBytes(thread) - before - idle;
        // Some 400 calls: one small object in each would be above this by far.
        due("calls make objects", used > 2000, false);
    }

    public static void main(String[] args) throws IOException {
        String source = Files.readString(SOURCE).replaceAll("(?s)/\\*.*?\\*/", "").replaceAll("//.*", "");
        namesAndClassesInside();
        words(source);
        fieldsAndParameters();
        methodLengths(source);
        room();
        System.out.println(wrong == 0 ? "the language is as due" : wrong + " things are not as due");
        if (wrong != 0) {
            System.exit(1);
        }
    }
}
