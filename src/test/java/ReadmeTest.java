import java.lang.reflect.Method;
import java.lang.reflect.Modifier;
import java.nio.file.Files;
import java.nio.file.Path;
import java.util.List;
import java.util.Map;
import java.util.TreeMap;
import java.util.regex.Matcher;
import java.util.regex.Pattern;

/** README.md: its examples, line by line on one object, answer what it says; its table has every call, and no other. */
public final class ReadmeTest {
    private static final Pattern TOLD = Pattern.compile("for \\(char c : \"(.*)\"\\.toCharArray\\(\\)\\) \\{");
    private static final Pattern ASKED = Pattern.compile("x\\.(\\w+)\\((.*)\\); +// (-?\\d+)(:.*)?");
    private static final Pattern IN_TABLE = Pattern.compile("\\| `(\\w+)\\((.*)\\)` \\| .*");
    private static final List<String> UNASKED = List.of(
        "BeaconLines x = new BeaconLines();", "x.feed(c);", "}");
    private static final Map<String, Method> FACE = new TreeMap<>();
    private static final Map<String, Integer> TABLE = new TreeMap<>();
    private static final BeaconLines X = new BeaconLines();
    private static int asked;
    private static int failed;

    public static void main(String[] args) throws Exception {
        for (Method m : BeaconLines.class.getDeclaredMethods()) {
            if (Modifier.isPublic(m.getModifiers())) {
                FACE.put(m.getName(), m);
            }
        }
        boolean code = false;
        for (String line : Files.readAllLines(Path.of("README.md"))) {
            if (line.startsWith("```")) {
                code = line.equals("```java");
            } else if (code) {
                example(line.trim());
            } else {
                row(line);
            }
        }
        theTable();
        due("the examples ask enough: " + asked, asked >= 20, true);
        System.out.println("readme: " + asked + " answers, " + failed + " wrong");
        if (failed > 0) {
            System.exit(1);
        }
    }

    private static void due(String what, Object got, Object want) {
        if (!got.equals(want)) {
            failed++;
            System.out.println(what + ": " + got + ", README.md says " + want);
        }
    }

    private static void example(String line) throws Exception {
        Matcher told = TOLD.matcher(line);
        Matcher call = ASKED.matcher(line);
        if (told.matches()) {
            for (char c : told.group(1).toCharArray()) {
                X.feed(c);
            }
        } else if (call.matches()) {
            asked++;
            due(line, answer(call.group(1), call.group(2)), Long.parseLong(call.group(3)));
        } else {
            due("a line that this test can read, '" + line + "'", UNASKED.contains(line), true);
        }
    }

    private static long answer(String name, String numbers) throws Exception {
        Method m = FACE.get(name);
        Class<?>[] types = m.getParameterTypes();
        String[] each = numbers.isEmpty() ? new String[0] : numbers.split(",");
        Object[] values = new Object[each.length];
        for (int i = 0; i < each.length; i++) {
            long v = product(each[i]);
            if (types[i] == long.class) {
                values[i] = v;
            } else {
                values[i] = (int) v;
            }
        }
        return ((Number) m.invoke(X, values)).longValue();
    }

    private static long product(String factors) {
        long p = 1;
        for (String factor : factors.split("\\*")) {
            p *= Long.parseLong(factor.trim());
        }
        return p;
    }

    private static void row(String line) {
        Matcher call = IN_TABLE.matcher(line);
        if (call.matches()) {
            String numbers = call.group(2);
            TABLE.put(call.group(1), numbers.isEmpty() ? 0 : numbers.split(",").length);
        }
    }

    private static void theTable() {
        Map<String, Integer> face = new TreeMap<>();
        for (Method m : FACE.values()) {
            face.put(m.getName(), m.getParameterCount());
        }
        due("the calls and how many numbers they take", face, TABLE);
    }
}
