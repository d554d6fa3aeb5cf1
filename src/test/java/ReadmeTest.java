import java.io.IOException;
import java.lang.reflect.Method;
import java.lang.reflect.Modifier;
import java.nio.file.Files;
import java.nio.file.Path;
import java.util.Arrays;
import java.util.Set;
import java.util.TreeSet;
import java.util.regex.Matcher;
import java.util.regex.Pattern;

/** What README.md says of the class: each answer of its examples, and each call of its table. */
public final class ReadmeTest {
    private static final Path README = Path.of("README.md");
    private static final Pattern EXAMPLE = Pattern.compile("(?s)```java\n(.*?)```");
    private static final Pattern CALL = Pattern.compile("x\\.(\\w+)\\(([^)]*)\\);");
    private static final Pattern ANSWER = Pattern.compile("// (-?\\d+)\\b");
    private static final Pattern ROW = Pattern.compile("(?m)^\\| `(\\w+)\\(([^)]*)\\)` \\|");
    private static final String MADE = "SecretSquares x = new SecretSquares();";

    private static int asked = 0;
    private static int wrong = 0;

    private static void due(String what, Object got, Object want) {
        asked++;
        if (!got.equals(want)) {
            wrong++;
            System.out.println(what + ": is " + got + ", due is " + want);
        }
    }

    private static Object[] numbers(String list) {
        if (list.isBlank()) {
            return new Object[0];
        }
        return Arrays.stream(list.split(", "))
                .map(n -> n.startsWith("'") ? (int) n.charAt(1) : Integer.parseInt(n))
                .toArray();
    }

    private static int call(SecretSquares x, String name, Object[] numbers) throws ReflectiveOperationException {
        Class<?>[] types = new Class<?>[numbers.length];
        Arrays.fill(types, int.class);
        return (int) SecretSquares.class.getMethod(name, types).invoke(x, numbers);
    }

    private static void example(String lines) throws ReflectiveOperationException {
        SecretSquares x = new SecretSquares();
        String[] rows = lines.split("\n");
        due("the first line of an example", rows[0], MADE);
        for (int i = 1; i < rows.length; i++) {
            Matcher call = CALL.matcher(rows[i]);
            Integer last = null;
            while (call.find()) {
                last = call(x, call.group(1), numbers(call.group(2)));
            }
            Matcher answer = ANSWER.matcher(rows[i]);
            if (last == null || !answer.find()) {
                due(rows[i] + ": a call and its answer", "missing", "there");
            } else {
                due(rows[i], last, Integer.parseInt(answer.group(1)));
            }
        }
    }

    private static void table(String readme) {
        Set<String> told = new TreeSet<>();
        Matcher row = ROW.matcher(readme);
        while (row.find()) {
            told.add(row.group(1) + " " + numberOfNames(row.group(2)));
        }
        Set<String> face = new TreeSet<>();
        for (Method m : SecretSquares.class.getDeclaredMethods()) {
            if (Modifier.isPublic(m.getModifiers())) {
                face.add(m.getName() + " " + m.getParameterCount());
            }
        }
        due("the calls of the table", told, face);
    }

    private static int numberOfNames(String list) {
        return list.isBlank() ? 0 : list.split(", ").length;
    }

    private static void constants(String readme) throws ReflectiveOperationException {
        for (String name : new String[] {"OUTSIDE", "STATE", "FULL", "NONE", "FAULT"}) {
            int value = SecretSquares.class.getField(name).getInt(null);
            due(name + " is told as " + value, readme.contains("`" + name + "` (" + value + ")"), true);
        }
    }

    public static void main(String[] args) throws IOException, ReflectiveOperationException {
        String readme = Files.readString(README);
        Matcher examples = EXAMPLE.matcher(readme);
        int seen = 0;
        while (examples.find()) {
            example(examples.group(1));
            seen++;
        }
        due("there are examples", seen > 0, true);
        table(readme);
        constants(readme);
        due("README.md says how to run the tests", readme.contains("```sh\n.ci/run\n```"), true);
        System.out.println(asked + " answers asked, " + wrong + " not as due");
        if (wrong != 0) {
            System.exit(1);
        }
    }
}
