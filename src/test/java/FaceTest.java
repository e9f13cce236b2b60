import com.sun.management.ThreadMXBean;
import java.io.IOException;
import java.lang.management.ManagementFactory;
import java.lang.reflect.Constructor;
import java.lang.reflect.Field;
import java.lang.reflect.Method;
import java.lang.reflect.Modifier;
import java.nio.file.Files;
import java.nio.file.Path;
import java.util.Arrays;
import java.util.Collections;
import java.util.IdentityHashMap;
import java.util.Set;
import java.util.TreeSet;
import java.util.regex.Matcher;
import java.util.regex.Pattern;

/**
 * The public face is the document's and no other, the source keeps to LANGUAGE.md where a test can see it, and the
 * room is kept small.
 */
public final class FaceTest {
    private static final String[] METHODS = {
        "boolean turn(int,int,int,int)", "boolean drop(int)", "int group()", "int about(int)", "int element(int,int)",
        "int times(int,int)", "int of(int,int)", "int sign(int,int)", "boolean put(int,int,int,int,int)",
        "int number(int,int,int,int)", "int degree(int)", "int sum(int,int,int,int,int)", "int product(int,int,int)",
        "int turned(int,int,int)", "int mean(int,int,int)", "int stays(int,int)", "int count(int,int)",
        "int series(int,int)", "int few(int,int)", "int laws(int,int)", "int made(int)", "int part(int,int)",
        "int value(int,int,int,int)", "int images(int,int,int)", "int image(int,int)", "int leads(int,int,int)"};
    private static final Set<String> IMPORTS = Set.of("java.util.Arrays", "java.util.ArrayList", "java.util.List",
        "java.util.Iterator");
    private static final long ROOM_OBJECTS = 600_000;
    private static final long ROOM_ELEMENTS = 7_300_000;
    private static final int DEAR_CALLS = 30;
    private static int wrong = 0;

    private static void due(String what, Object got, Object want) {
        if (!got.equals(want)) {
            wrong++;
            System.out.println(what + ": " + got + ", due is " + want);
        }
    }

    public static void main(String[] args) throws IOException {
        face();
        nested();
        source();
        room();
        System.out.println(wrong == 0 ? "face, source and room are as due" : wrong + " are not as due");
        if (wrong != 0) {
            System.exit(1);
        }
    }

    private static void face() {
        due("class", Modifier.toString(TurnBench.class.getModifiers()), "public final");
        due("constant", TurnBench.NONE, -1);
        Set<String> methods = new TreeSet<>();
        Set<String> names = new TreeSet<>();
        for (Method m : TurnBench.class.getDeclaredMethods()) {
            if (!Modifier.isPrivate(m.getModifiers()) && !m.isSynthetic()) {
                due("modifiers of " + m.getName(), Modifier.toString(m.getModifiers()), "public");
                methods.add(signature(m));
                names.add(m.getName());
            }
        }
        due("methods", methods, new TreeSet<>(Arrays.asList(METHODS)));
        Set<String> fields = new TreeSet<>();
        for (Field f : TurnBench.class.getDeclaredFields()) {
            if (!Modifier.isPrivate(f.getModifiers())) {
                fields.add(Modifier.toString(f.getModifiers()) + " " + f.getType() + " " + f.getName());
            }
        }
        due("fields", fields, Set.of("public static final int NONE"));
        Constructor<?>[] constructors = TurnBench.class.getDeclaredConstructors();
        due("constructors", constructors.length, 1);
        due("constructor", constructors[0].toString(), "public TurnBench()");
        due("private methods with a public one's name", namedLikePublic(names), new TreeSet<String>());
    }

    private static String signature(Method m) {
        StringBuilder text = new StringBuilder(m.getReturnType() + " " + m.getName() + "(");
        for (int i = 0; i < m.getParameterCount(); i++) {
            text.append(i == 0 ? "" : ",").append(m.getParameterTypes()[i]);
        }
        return text.append(")").toString();
    }

    private static Set<String> namedLikePublic(Set<String> names) {
        Set<String> found = new TreeSet<>();
        for (Class<?> c : TurnBench.class.getDeclaredClasses()) {
            for (Method m : c.getDeclaredMethods()) {
                if (Modifier.isPrivate(m.getModifiers()) && names.contains(m.getName())) {
                    found.add(c.getSimpleName() + "." + m.getName());
                }
            }
        }
        for (Method m : TurnBench.class.getDeclaredMethods()) {
            if (Modifier.isPrivate(m.getModifiers()) && names.contains(m.getName())) {
                found.add(m.getName());
            }
        }
        return found;
    }

    private static void nested() {
        Class<?>[] classes = TurnBench.class.getDeclaredClasses();
        due("some twelve classes at most", classes.length + 1 <= 14, true);
        for (Class<?> c : classes) {
            due(c.getSimpleName() + " is static", Modifier.isStatic(c.getModifiers()), true);
            due(c.getSimpleName() + " is not public", Modifier.isPublic(c.getModifiers()), false);
            int fields = 0;
            for (Field f : c.getDeclaredFields()) {
                fields += Modifier.isStatic(f.getModifiers()) ? 0 : 1;
                due(c.getSimpleName() + "." + f.getName() + ", if static, is final",
                    Modifier.isStatic(f.getModifiers()) && !Modifier.isFinal(f.getModifiers()), false);
            }
            due(c.getSimpleName() + " has some twenty fields at most", fields <= 24, true);
            for (Method m : c.getDeclaredMethods()) {
                due(m + " takes seven parameters at most", m.getParameterCount() <= 7, true);
            }
        }
    }

    private static void source() throws IOException {
        String text = Files.readString(Path.of("src/main/java/TurnBench.java"))
            .replaceAll("(?s)/\\*.*?\\*/", "").replaceAll("//[^\n]*", "");
        String withoutCases = text.replaceAll("(\\bcase\\b[^;:>]*|\\bdefault\\s*)->", "");
        Matcher ruledOut = Pattern.compile("\\b(throw|throws|try|catch|synchronized|assert|package|hashCode|Random"
            + "|System\\.(?!arraycopy)\\w+|Math\\.\\w*Exact)\\b|->|::").matcher(withoutCases);
        while (ruledOut.find()) {
            due("ruled out", ruledOut.group(), "");
        }
        Matcher imports = Pattern.compile("import ([^;]+);").matcher(text);
        while (imports.find()) {
            due("import of " + imports.group(1), IMPORTS.contains(imports.group(1)), true);
        }
        due("methods of some sixty lines at most", longest(text.split("\n")) <= 70, true);
    }

    /** The longest run of lines from a method's head to its end, told by how far they are set in. */
    private static int longest(String[] lines) {
        int most = 0;
        for (int from = 0; from < lines.length; from++) {
            Matcher head = Pattern.compile("^( {4}| {8})\\S.*\\) \\{$").matcher(lines[from]);
            if (head.matches()) {
                int to = from;
                while (!lines[to].equals(head.group(1) + "}")) {
                    to++;
                }
                most = Math.max(most, to - from + 1);
            }
        }
        return most;
    }

    /** All calls of a run live in one room: an object and its 512 calls, dear ones, take less than it has. */
    private static void room() {
        long[] held = {0, 0};
        measure(new TurnBench(), Collections.newSetFromMap(new IdentityHashMap<>()), held);
        due("objects held, " + held[0], held[0] < ROOM_OBJECTS, true);
        due("fields and elements held, " + held[1], held[1] < ROOM_ELEMENTS, true);
        dearCalls(new TurnBench());
        ThreadMXBean threads = (ThreadMXBean) ManagementFactory.getThreadMXBean();
        long self = Thread.currentThread().getId();
        long before = threads.getThreadAllocatedBytes(self);
        TurnBench x = new TurnBench();
        for (int calls = 0; calls + DEAR_CALLS <= 512; calls += DEAR_CALLS) {
            dearCalls(x);
        }
        long bytes = threads.getThreadAllocatedBytes(self) - before;
        due("bytes that a run makes, " + bytes, bytes < ROOM_ELEMENTS * Integer.BYTES, true);
    }

    private static void measure(Object o, Set<Object> seen, long[] held) {
        if (o == null || !seen.add(o)) {
            return;
        }
        held[0]++;
        if (o.getClass().isArray()) {
            int length = java.lang.reflect.Array.getLength(o);
            held[1] += length;
            for (int i = 0; !o.getClass().getComponentType().isPrimitive() && i < length; i++) {
                measure(java.lang.reflect.Array.get(o, i), seen, held);
            }
            return;
        }
        for (Field f : o.getClass().getDeclaredFields()) {
            if (!Modifier.isStatic(f.getModifiers())) {
                held[1]++;
                measureField(o, f, seen, held);
            }
        }
    }

    private static void measureField(Object o, Field f, Set<Object> seen, long[] held) {
        if (f.getType().isPrimitive()) {
            return;
        }
        try {
            f.setAccessible(true);
            measure(f.get(o), seen, held);
        } catch (IllegalAccessException e) {
            throw new IllegalStateException(e);
        }
    }

    private static void dearCalls(TurnBench x) {
        x.turn(0, 2, 3, 1);
        x.turn(1, 2, 1, 3);
        x.turn(2, -1, 2, 3);
        x.group();
        for (int what = 0; what < 8; what++) {
            x.about(what);
        }
        x.few(0, 2);
        x.product(1, 0, 0);
        x.few(0, 0);
        x.product(1, 0, 0);
        x.sum(1, 1, 3, 0, 4);
        x.turned(2, 1, 5);
        x.mean(2, 1, 0);
        x.stays(2, 0);
        x.count(8, 1);
        x.series(200, 1);
        x.laws(6, 1);
        x.made(2);
        x.part(0, 0);
        x.value(2, 3, 4, 5);
        x.images(1, 2, 3);
        x.leads(3, 2, 1);
        x.drop(2);
        x.drop(1);
    }
}
