import java.lang.management.ManagementFactory;
import java.lang.reflect.Constructor;
import java.lang.reflect.Field;
import java.lang.reflect.Method;
import java.lang.reflect.Modifier;
import java.nio.file.Files;
import java.nio.file.Path;
import java.util.Set;
import java.util.TreeSet;
import java.util.regex.Matcher;
import java.util.regex.Pattern;

/** What LANGUAGE.md asks and a machine can see: the face, the words that are ruled out, the room. */
public final class FaceTest {
    private static final Path SOURCE = Path.of("src/main/java/BeaconLines.java");
    private static final Set<String> FACE = Set.of(
        "int feed(int)", "int end(int)", "int text()", "int fault()", "int rule(int)", "int stamp(int,int)",
        "int clock(int,int)", "int line(int,int,int)", "long sum(int,int,int)", "int struck(int,int,int)",
        "long far(int,int,int)", "int cost(int,int)", "int chain(int,int,int)", "long taken(int,int,long)",
        "int ok()", "long there(int,int,long)", "int hear(int,int,int)", "int lose(int,int)",
        "int shift(int,int)", "int set(int,int)", "int draw(int,int)", "int keep(int)", "int back(int)",
        "int sheet(int,int,int)", "int lay(int,int,int)", "int read(int,int,int,int,int)", "int count(int)");
    private static int failed;

    private static void due(String what, Object got, Object want) {
        if (!got.equals(want)) {
            failed++;
            System.out.println(what + ": " + got + ", due is " + want);
        }
    }

    public static void main(String[] args) throws Exception {
        theFace();
        theClassesInside();
        theSource();
        theRoom();
        System.out.println("face: " + failed + " wrong");
        if (failed > 0) {
            System.exit(1);
        }
    }

    private static void theFace() {
        due("public final", BeaconLines.class.getModifiers(), Modifier.PUBLIC | Modifier.FINAL);
        Set<String> found = new TreeSet<>();
        Set<String> names = new TreeSet<>();
        for (Method m : BeaconLines.class.getDeclaredMethods()) {
            if (!Modifier.isPrivate(m.getModifiers())) {
                found.add(shape(m));
                names.add(m.getName());
            }
        }
        due("methods", found, new TreeSet<>(FACE));
        for (Method m : BeaconLines.class.getDeclaredMethods()) {
            boolean hidden = Modifier.isPrivate(m.getModifiers());
            due("the name of a private method, " + m, hidden && names.contains(m.getName()), false);
        }
        Set<String> constants = new TreeSet<>();
        for (Field f : BeaconLines.class.getDeclaredFields()) {
            if (!Modifier.isPrivate(f.getModifiers())) {
                constants.add(Modifier.toString(f.getModifiers()) + " " + f.getType() + " " + f.getName());
            }
        }
        Set<String> dueConstants = new TreeSet<>();
        for (String name : new String[] {"BAD", "STATE", "FULL", "NONE"}) {
            dueConstants.add("public static final int " + name);
        }
        due("constants", constants, dueConstants);
        Constructor<?>[] all = BeaconLines.class.getDeclaredConstructors();
        due("constructors", all.length + all[0].toString(), "1public BeaconLines()");
    }

    private static String shape(Method m) {
        StringBuilder text = new StringBuilder();
        text.append(Modifier.toString(m.getModifiers()).replace("public", "").trim());
        text.append(m.getReturnType()).append(' ').append(m.getName()).append('(');
        for (int i = 0; i < m.getParameterCount(); i++) {
            text.append(i == 0 ? "" : ",").append(m.getParameterTypes()[i]);
        }
        return text.append(')').toString();
    }

    private static void theClassesInside() {
        Class<?>[] inside = BeaconLines.class.getDeclaredClasses();
        due("at most twelve classes", inside.length <= 12, true);
        for (Class<?> c : inside) {
            due(c + " is static", Modifier.isStatic(c.getModifiers()), true);
            due(c + " is not public", Modifier.isPublic(c.getModifiers()), false);
            for (Field f : c.getDeclaredFields()) {
                int mods = f.getModifiers();
                due(f + " is no changing static", Modifier.isStatic(mods) && !Modifier.isFinal(mods), false);
            }
            for (Method m : c.getDeclaredMethods()) {
                due(m + " has a name of the face", isOfTheFace(m.getName()), false);
                due(m + " has at most seven parameters", m.getParameterCount() <= 7, true);
            }
        }
    }

    private static boolean isOfTheFace(String name) {
        return FACE.stream().anyMatch(each -> each.contains(" " + name + "("));
    }

    private static void theSource() throws Exception {
        String source = Files.readString(SOURCE);
        String code = source.replaceAll("(?s)/\\*.*?\\*/", "").replaceAll("//[^\n]*", "");
        String[] ruledOut = {"throw", "throws", "try", "catch", "finally", "synchronized", "assert", "package",
            "Exact", "HashMap", "Random", "Long.M", "Integer.M", "nanoTime", "->", "::", "double", "float"};
        for (String word : ruledOut) {
            due("'" + word + "' is ruled out", code.contains(word) && hasWord(code, word), false);
        }
        Matcher imports = Pattern.compile("(?m)^import (.*);").matcher(code);
        while (imports.find()) {
            due("import", imports.group(1), "java.util.Arrays");
        }
        due("signs above 126", code.chars().anyMatch(c -> c > 126 || c == '\t'), false);
    }

    private static boolean hasWord(String code, String word) {
        if (!Character.isLetter(word.charAt(0)) || word.equals("Exact")) {
            return true;
        }
        return Pattern.compile("\\b" + Pattern.quote(word)).matcher(code).find();
    }

    /** All rows are made by the constructor: 512 of the dearest calls make nothing more. */
    private static void theRoom() {
        com.sun.management.ThreadMXBean bean = (com.sun.management.ThreadMXBean) ManagementFactory.getThreadMXBean();
        long thread = Thread.currentThread().getId();
        allCalls(new BeaconLines(), 1);
        BeaconLines x = new BeaconLines();
        long before = bean.getThreadAllocatedBytes(thread);
        allCalls(x, 2);
        long made = bean.getThreadAllocatedBytes(thread) - before;
        due("bytes made by calls (" + made + ") are few", made < 20_000, true);
    }

    private static void allCalls(BeaconLines x, int seed) {
        for (int i = 0; i < 40; i++) {
            x.draw(seed + i, 7);
            x.set(2, i % 3);
            x.rule(6);
            x.chain(0, 6, 3);
            x.there(6, 0, 256000 + i);
            x.keep(i % 2);
            x.back(i % 2);
            x.sheet(i % 4, i % 3, 48);
            x.lay(i % 4, 5, i);
            x.read(i % 4, i % 3, 0, 1, 16);
            x.feed('c');
            x.text();
        }
    }
}
