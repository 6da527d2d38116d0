import java.lang.reflect.InvocationTargetException;
import java.lang.reflect.Method;
import java.nio.charset.StandardCharsets;
import java.nio.file.Files;
import java.nio.file.Path;
import java.util.ArrayList;
import java.util.Comparator;
import java.util.List;
import java.util.Set;
import java.util.TreeSet;

/** Runs all tests that are marked with a sentence of the document, and sees that each of these sentences stands there. */
public final class EdgeTest {
    private static final Class<?>[] EDGES = {LandEdges.class, ChanceEdges.class, MoneyEdges.class, LetterEdges.class, OtherEdges.class,
        SentenceEdges.class};
    private static final int PROMISES = 40;

    private static final String NO_WORDS = "==== [IV]+\\.|```text|```|`[^`]*`:?|## Promise \\d+:( \\w+)?";

    /** Words that name what the sentence behind them tells, and promise nothing by themselves. */
    private static final Set<String> NAMES = Set.of("A LAND is", "CLAUSE", "THROUGH", "CHANCE that it is THROUGH",
        "THOUGHT of a THING", "WITHIN d DAYS", "SOON for n sixteenths", "MEAN of two PLACES", "The constants", "None");

    private static int passed;
    private static int failed;

    private static void fail(String why) {
        failed++;
        System.out.println("FAILED: " + why);
    }

    private static String flat(String text) {
        return text.replaceAll("\\s+", " ");
    }

    private static String section(String document, int promise) {
        int own = document.indexOf("\n## Promise " + promise + ":");
        int next = own < 0 ? -1 : document.indexOf("\n## ", own + 1);
        return flat(own < 0 ? "" : document.substring(own, next < 0 ? document.length() : next));
    }

    private static String aheadOfPromises(String document) {
        return flat(document.substring(0, Math.max(0, document.indexOf("\n## Promise 1:"))));
    }

    /** The part of the document that a promise may be quoted from: its own section, and all that stands ahead of the first. */
    private static String wordsFor(String document, int promise) {
        return aheadOfPromises(document) + "\n" + section(document, promise);
    }

    /** What the tests of a promise quote; of 0: those of all. */
    private static List<String> quotes(int promise) {
        List<String> found = new ArrayList<>();
        for (Method m : edges()) {
            Edge edge = m.getAnnotation(Edge.class);
            if (promise == 0 || edge.promise() == promise) {
                found.add(flat(edge.says()));
            }
        }
        return found;
    }

    /** What is left of a part of the document when the words that tests quote are taken out, and all that is no word. */
    private static Set<String> unquoted(String part, List<String> quotes) {
        StringBuilder left = new StringBuilder(part);
        for (String quote : quotes) {
            for (int at = part.indexOf(quote); at >= 0; at = part.indexOf(quote, at + 1)) {
                left.replace(at, at + quote.length(), "~".repeat(quote.length()));
            }
        }
        Set<String> found = new TreeSet<>();
        String words = left.toString().replaceAll(NO_WORDS, "~");
        for (String piece : words.split("[~.,:;|(){}]+")) {
            if (!piece.isBlank()) {
                found.add(piece.strip());
            }
        }
        return found;
    }

    /** Each word of the terms and of the promises stands in a sentence that some test quotes. */
    private static void everySentenceHasATest(String document) {
        String ahead = aheadOfPromises(document);
        Set<String> left = unquoted(ahead.substring(ahead.indexOf("## Terms") + "## Terms".length()), quotes(0));
        for (int promise = 1; promise <= PROMISES; promise++) {
            left.addAll(unquoted(section(document, promise), quotes(promise)));
        }
        left.removeAll(NAMES);
        for (String words : left) {
            fail("no test is for \"" + words + "\"");
        }
    }

    private static List<Method> edges() {
        List<Method> found = new ArrayList<>();
        for (Class<?> c : EDGES) {
            for (Method m : c.getDeclaredMethods()) {
                if (m.isAnnotationPresent(Edge.class)) {
                    found.add(m);
                }
            }
        }
        found.sort(Comparator.comparingInt((Method m) -> m.getAnnotation(Edge.class).promise()).thenComparing(Method::getName));
        return found;
    }

    private static void run(Method m, String name) throws IllegalAccessException {
        int done = Checks.passed;
        int wrong = Checks.failed;
        Checks.about = name;
        try {
            m.setAccessible(true);
            m.invoke(null);
        } catch (InvocationTargetException e) {
            fail(name + " threw " + e.getCause());
            return;
        }
        if (Checks.failed != wrong) {
            fail(name);
        } else if (Checks.passed == done) {
            fail(name + " compares nothing");
        } else {
            passed++;
        }
    }

    public static void main(String[] args) throws Exception {
        String document = Files.readString(Path.of("../shared/DOC.md"), StandardCharsets.UTF_8);
        int[] tests = new int[PROMISES + 1];
        for (Method m : edges()) {
            Edge edge = m.getAnnotation(Edge.class);
            String name = "promise " + edge.promise() + ", \"" + edge.says() + "\" (" + m.getName() + ")";
            if (!wordsFor(document, edge.promise()).contains(flat(edge.says()))) {
                fail(name + ": the document does not say so");
            }
            tests[edge.promise()]++;
            run(m, name);
        }
        everySentenceHasATest(document);
        for (int promise = 1; promise <= PROMISES; promise++) {
            if (tests[promise] == 0) {
                fail("promise " + promise + " has no test");
            }
        }
        System.out.println(passed + " passed, " + failed + " failed");
        if (failed != 0) {
            System.exit(1);
        }
    }
}
