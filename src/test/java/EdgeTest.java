import java.lang.reflect.InvocationTargetException;
import java.lang.reflect.Method;
import java.nio.charset.StandardCharsets;
import java.nio.file.Files;
import java.nio.file.Path;
import java.util.ArrayList;
import java.util.Comparator;
import java.util.List;

/** Runs all tests that are marked with a sentence of the document, and sees that each of these sentences stands there. */
public final class EdgeTest {
    private static final Class<?>[] EDGES = {LandEdges.class, ChanceEdges.class, MoneyEdges.class, LetterEdges.class, OtherEdges.class};
    private static final int PROMISES = 40;

    private static int passed;
    private static int failed;

    private static void fail(String why) {
        failed++;
        System.out.println("FAILED: " + why);
    }

    private static String flat(String text) {
        return text.replaceAll("\\s+", " ");
    }

    /** The part of the document that a promise may be quoted from: its own section, and all that stands ahead of the first. */
    private static String wordsFor(String document, int promise) {
        int own = document.indexOf("\n## Promise " + promise + ":");
        int next = own < 0 ? -1 : document.indexOf("\n## ", own + 1);
        String section = own < 0 ? "" : document.substring(own, next < 0 ? document.length() : next);
        return flat(document.substring(0, Math.max(0, document.indexOf("\n## Promise 1:")))) + "\n" + flat(section);
    }

    private static List<Method> edges() {
        List<Method> found = new ArrayList<>();
        for (Class<?> c : EDGES) {
            for (Method m : c.getDeclaredMethods()) {
                if (m.isAnnotationPresent(Edge.class)) {
                    found.add(m);
                }
            }
        }
        found.sort(Comparator.comparingInt((Method m) -> m.getAnnotation(Edge.class).promise()).thenComparing(Method::getName));
        return found;
    }

    private static void run(Method m, String name) throws IllegalAccessException {
        int done = Checks.passed;
        int wrong = Checks.failed;
        Checks.about = name;
        try {
            m.setAccessible(true);
            m.invoke(null);
        } catch (InvocationTargetException e) {
            fail(name + " threw " + e.getCause());
            return;
        }
        if (Checks.failed != wrong) {
            fail(name);
        } else if (Checks.passed == done) {
            fail(name + " compares nothing");
        } else {
            passed++;
        }
    }

    public static void main(String[] args) throws Exception {
        String document = Files.readString(Path.of("../shared/DOC.md"), StandardCharsets.UTF_8);
        int[] tests = new int[PROMISES + 1];
        for (Method m : edges()) {
            Edge edge = m.getAnnotation(Edge.class);
            String name = "promise " + edge.promise() + ", \"" + edge.says() + "\" (" + m.getName() + ")";
            if (!wordsFor(document, edge.promise()).contains(flat(edge.says()))) {
                fail(name + ": the document does not say so");
            }
            tests[edge.promise()]++;
            run(m, name);
        }
        for (int promise = 1; promise <= PROMISES; promise++) {
            if (tests[promise] == 0) {
                fail("promise " + promise + " has no test");
            }
        }
        System.out.println(passed + " passed, " + failed + " failed");
        if (failed != 0) {
            System.exit(1);
        }
    }
}
