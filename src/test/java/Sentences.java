import java.io.IOException;
import java.lang.reflect.InvocationTargetException;
import java.lang.reflect.Method;
import java.nio.file.Files;
import java.nio.file.Path;
import java.util.ArrayList;
import java.util.Arrays;
import java.util.Comparator;
import java.util.List;

/**
 * Runs the tests of a class that are marked with a sentence, each by itself, and looks up in DOC.md that the
 * sentences stand where the tests say, and that no words of a section are left without a test.
 */
final class Sentences {
    private static final Path DOCUMENT = Path.of("../shared/DOC.md");
    private static String running = "";
    private static int wrong = 0;

    private Sentences() {
    }

    static void run(Class<?> tests, String... sections) {
        List<Method> all = new ArrayList<>();
        for (Method m : tests.getDeclaredMethods()) {
            if (m.isAnnotationPresent(Sentence.class)) {
                all.add(m);
            }
        }
        all.sort(Comparator.comparing(Method::getName));
        for (Method m : all) {
            Sentence s = m.getAnnotation(Sentence.class);
            running = m.getName() + " (" + s.at() + ": " + s.text() + ")";
            runOne(m);
        }
        running = "the document";
        lookUp(all, sections);
        System.out.println(all.size() + " tests of sentences, " + wrong + " answers not as due");
        if (wrong != 0 || all.isEmpty()) {
            System.exit(1);
        }
    }

    private static void runOne(Method m) {
        try {
            m.setAccessible(true);
            m.invoke(null);
        } catch (InvocationTargetException e) {
            fail("threw " + e.getCause() + " at " + Arrays.toString(e.getCause().getStackTrace()));
        } catch (IllegalAccessException e) {
            fail("can't be run: " + e);
        }
    }

    static void fail(String why) {
        wrong++;
        System.out.println(running + ": " + why);
    }

    static void due(String call, long got, long want) {
        if (got != want) {
            fail(call + " answered " + got + ", due is " + want);
        }
    }

    static void due(String call, boolean got, boolean want) {
        if (got != want) {
            fail(call + " answered " + got + ", due is " + want);
        }
    }

    static void due(String what, List<String> got, List<String> want) {
        for (int i = 0; i < Math.max(got.size(), want.size()); i++) {
            String one = i < got.size() ? got.get(i) : "nothing";
            String other = i < want.size() ? want.get(i) : "nothing";
            if (!one.equals(other)) {
                fail(what + ": " + one + ", due is " + other);
                return;
            }
        }
    }

    private static void lookUp(List<Method> all, String[] sections) {
        if (!Files.isReadable(DOCUMENT)) {
            System.out.println(DOCUMENT + " is not there: the sentences were not looked up");
            return;
        }
        for (Method m : all) {
            Sentence s = m.getAnnotation(Sentence.class);
            if (!section(s.at()).contains(s.text())) {
                fail(s.at() + " has no such sentence: " + s.text());
            }
        }
        for (String at : sections) {
            String left = section(at);
            for (String text : longestFirst(all, at)) {
                left = left.replace(text, " ");
            }
            if (left.matches(".*[A-Za-z0-9].*")) {
                fail(at + " has words without a test: " + left.trim());
            }
        }
    }

    private static List<String> longestFirst(List<Method> all, String at) {
        List<String> texts = new ArrayList<>();
        for (Method m : all) {
            Sentence s = m.getAnnotation(Sentence.class);
            if (s.at().equals(at)) {
                texts.add(s.text());
            }
        }
        texts.sort(Comparator.comparing(String::length).reversed());
        return texts;
    }

    /** The words of a section, without its heading, its call's face and its marks, and with single spaces. */
    private static String section(String at) {
        String text;
        try {
            text = Files.readString(DOCUMENT).replaceAll("```(text|java)?", " ");
        } catch (IOException e) {
            throw new IllegalStateException(e);
        }
        String[] name = at.split(" ");
        String from = name[0].equals("Promise") ? "\n## Promise " + name[1] + ":"
            : name[0].equals("Terms") ? "\n==== " + name[1] + "." : "\n## " + at + "\n";
        int begin = text.indexOf(from);
        if (begin < 0) {
            return "";
        }
        String rest = text.substring(begin + from.length());
        int end = rest.length();
        for (String next : new String[] {"\n## ", "\n==== ", "\nThe constants:"}) {
            int found = rest.indexOf(next);
            end = found < 0 ? end : Math.min(end, found);
        }
        rest = rest.substring(0, end);
        if (name[0].equals("Promise")) {
            rest = rest.substring(rest.indexOf("`: ") + 3);
        }
        return rest.replaceAll("\\s+", " ").trim();
    }
}
