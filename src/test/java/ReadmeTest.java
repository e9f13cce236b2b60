import java.io.IOException;
import java.lang.reflect.InvocationTargetException;
import java.lang.reflect.Method;
import java.nio.file.Files;
import java.nio.file.Path;
import java.util.ArrayList;
import java.util.Arrays;
import java.util.LinkedHashMap;
import java.util.List;
import java.util.Map;
import java.util.Set;
import java.util.TreeSet;
import java.util.regex.Matcher;
import java.util.regex.Pattern;
import java.util.stream.Collectors;
import java.util.stream.Stream;

/**
 * What README.md shows of the class's use answers as README.md says: its blocks are run, its table is compared with
 * the document's face and with the blocks, and the tests that it names with those that there are.
 */
public final class ReadmeTest {
    private static final Path README = Path.of("README.md");
    private static final Path DOCUMENT = Path.of("../shared/DOC.md");
    private static final String USE = "### What the calls are for";
    private static final String NONE_THERE = "### What they answer where there is none";
    private static final Pattern NEW = Pattern.compile("TurnBench (\\w+) = new TurnBench\\(\\);");
    private static final Pattern CALL =
        Pattern.compile("(\\w+)\\.(\\w+)\\(([-0-9, ]*)\\); +// (-?\\d+|true|false)(: .+)?");
    private static final Pattern ROW = Pattern.compile("\\| `((\\w+)\\(([^)]*)\\))` \\| ([^|]+) \\| ([^|]*) ?\\|");
    private static final Pattern FACE = Pattern.compile("(?m)^    public (?:int|boolean) (\\w+\\([^)]*\\));$");
    private static final Pattern LIMIT = Pattern.compile("used for at most (\\d+) calls");

    private static final Map<String, TurnBench> objects = new LinkedHashMap<>();
    private static final Map<String, Integer> calls = new LinkedHashMap<>();
    private static final Map<String, Set<String>> answersUnder = new LinkedHashMap<>();
    private static int shown = 0;
    private static int wrong = 0;

    private ReadmeTest() {
    }

    public static void main(String[] args) throws IOException {
        List<String> lines = Files.readAllLines(README);
        runBlocks(lines);
        lookAtTable(lines);
        lookAtTests(String.join("\n", lines));
        System.out.println(shown + " calls of README.md, " + wrong + " things not as due");
        if (wrong != 0 || shown == 0) {
            System.exit(1);
        }
    }

    private static void fail(String why) {
        wrong++;
        System.out.println("README.md: " + why);
    }

    private static void runBlocks(List<String> lines) {
        String heading = "";
        boolean inBlock = false;
        for (String line : lines) {
            if (line.startsWith("```")) {
                inBlock = line.equals("```java");
            } else if (line.startsWith("#") && !inBlock) {
                heading = line;
            } else if (inBlock && !line.isBlank()) {
                runLine(heading, line);
            }
        }
    }

    private static void runLine(String heading, String line) {
        Matcher made = NEW.matcher(line);
        Matcher call = CALL.matcher(line);
        if (made.matches()) {
            objects.put(made.group(1), new TurnBench());
            calls.put(made.group(1), 0);
        } else if (!call.matches()) {
            fail("neither a new object nor a call with its answer: " + line);
        } else if (!objects.containsKey(call.group(1))) {
            fail("no such object was made: " + line);
        } else {
            calls.merge(call.group(1), 1, Integer::sum);
            String got = answer(objects.get(call.group(1)), call.group(2), numbers(call.group(3)));
            shown++;
            answersUnder.computeIfAbsent(heading + " " + call.group(2), key -> new TreeSet<>()).add(call.group(4));
            if (!got.equals(call.group(4))) {
                fail(line.replaceAll(" +//.*", "") + " answered " + got + ", README.md says " + call.group(4));
            }
        }
    }

    private static Object[] numbers(String text) {
        return text.isBlank() ? new Object[0]
            : Arrays.stream(text.split(",")).map(n -> Integer.valueOf(n.trim())).toArray();
    }

    private static String answer(TurnBench x, String name, Object[] numbers) {
        Class<?>[] types = new Class<?>[numbers.length];
        Arrays.fill(types, int.class);
        try {
            Method m = TurnBench.class.getMethod(name, types);
            return String.valueOf(m.invoke(x, numbers));
        } catch (NoSuchMethodException | IllegalAccessException e) {
            return "no such call: " + e;
        } catch (InvocationTargetException e) {
            return "with " + e.getCause();
        }
    }

    private static void lookAtTable(List<String> lines) throws IOException {
        List<String> rows = new ArrayList<>();
        for (String line : lines) {
            Matcher row = ROW.matcher(line);
            if (row.matches()) {
                rows.add(row.group(1));
                lookAtRow(row.group(2), row.group(5).trim());
            }
        }
        if (!Files.isReadable(DOCUMENT)) {
            System.out.println(DOCUMENT + " is not there: the table was not compared with its face");
            return;
        }
        String document = Files.readString(DOCUMENT);
        List<String> face = FACE.matcher(document).results().map(m -> m.group(1))
            .filter(m -> !m.startsWith("TurnBench(")).collect(Collectors.toList());
        if (!rows.equals(face)) {
            fail("the table has " + rows + ", the document's face " + face);
        }
        lookAtLimit(document, String.join("\n", lines));
    }

    private static void lookAtRow(String name, String whereNone) {
        if (!answersUnder.containsKey(USE + " " + name)) {
            fail(name + " is not shown in a block under " + USE);
        }
        Set<String> answers = answersUnder.getOrDefault(NONE_THERE + " " + name, Set.of());
        if (!whereNone.isEmpty() && !answers.contains(whereNone)) {
            fail(name + " answers " + whereNone + " in the table where there is none, and no block shows it");
        }
        if (whereNone.isEmpty() && !answers.isEmpty()) {
            fail(name + " has no answer in the table where there is none, and a block shows one");
        }
    }

    private static void lookAtLimit(String document, String readme) {
        Matcher limit = LIMIT.matcher(document);
        if (!limit.find()) {
            fail("the document does not say for how many calls an object is used");
            return;
        }
        if (!readme.contains("good for " + limit.group(1) + " calls")) {
            fail("it does not say that an object is good for " + limit.group(1) + " calls");
        }
        calls.forEach((name, many) -> {
            if (many > Integer.parseInt(limit.group(1))) {
                fail(name + " is called " + many + " times");
            }
        });
    }

    private static void lookAtTests(String readme) throws IOException {
        Set<String> there = new TreeSet<>();
        try (Stream<Path> files = Files.list(Path.of("src/test/java"))) {
            files.map(f -> f.getFileName().toString()).filter(f -> f.endsWith(".java"))
                .forEach(f -> there.add(f.replace(".java", "")));
        }
        for (String name : there) {
            if (!readme.contains("`" + name + "`") && !readme.contains("`@" + name + "`")) {
                fail("it does not name " + name);
            }
        }
        Matcher named = Pattern.compile("`(\\w+Test)`").matcher(readme);
        while (named.find()) {
            if (!there.contains(named.group(1))) {
                fail("there is no test " + named.group(1));
            }
        }
        if (!readme.contains("\n    .ci/run\n") || !Files.isExecutable(Path.of(".ci/run"))) {
            fail("it does not tell the command .ci/run, or that can't be run");
        }
    }
}
