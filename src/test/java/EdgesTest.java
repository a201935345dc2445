import java.lang.reflect.InvocationTargetException;
import java.lang.reflect.Method;
import java.nio.file.Files;
import java.nio.file.Path;
import java.util.ArrayList;
import java.util.Arrays;
import java.util.Comparator;
import java.util.List;

/** Runs all that is marked by Edge, and sees to it that no words of the document are left without a test. */
public final class EdgesTest {
    private static final int PROMISES = 41;
    private static final Path DOCUMENT = Path.of("../shared/DOC.md");
    private static final Class<?>[] EDGES = {TapeEdges.class, FaultEdges.class, EveningEdges.class, BowlEdges.class,
        WayEdges.class, BookEdges.class, ListEdges.class, ChanceEdges.class};

    public static void main(String[] args) throws Exception {
        List<Method> tests = allTests();
        for (Method test : tests) {
            Edge edge = test.getAnnotation(Edge.class);
            Due.begin("promise " + edge.promise() + ", " + test.getName() + ": ");
            run(test);
        }
        Due.begin("");
        if (Files.exists(DOCUMENT)) {
            compareWithDocument(tests);
        } else {
            System.out.println("EdgesTest: no " + DOCUMENT + " to compare the tests' words with");
        }
        System.out.println("EdgesTest: " + tests.size() + " tests");
        Due.finish("EdgesTest");
    }

    private static List<Method> allTests() {
        List<Method> tests = new ArrayList<>();
        for (Class<?> edges : EDGES) {
            for (Method method : edges.getDeclaredMethods()) {
                if (method.isAnnotationPresent(Edge.class)) {
                    tests.add(method);
                }
            }
        }
        tests.sort(Comparator.comparing((Method m) -> m.getAnnotation(Edge.class).promise()).thenComparing(Method::getName));
        return tests;
    }

    private static void run(Method test) throws Exception {
        try {
            test.invoke(null);
        } catch (InvocationTargetException e) {
            Due.is("it threw " + e.getCause(), true, false);
        }
    }

    private static void compareWithDocument(List<Method> tests) throws Exception {
        String document = Files.readString(DOCUMENT).replaceAll("\\s+", " ");
        String terms = section(document, "## Terms", "The constants:").replaceAll(" [1-6]\\. ", " ");
        boolean[] termsTested = new boolean[terms.length()];
        for (int promise = 1; promise <= PROMISES; promise++) {
            String own = section(document, "## Promise " + promise + ": ", "## ");
            own = own.substring(own.indexOf("`: ") + 3);
            boolean[] tested = new boolean[own.length()];
            for (Method test : tests) {
                Edge edge = test.getAnnotation(Edge.class);
                if (edge.promise() == promise) {
                    for (String words : edge.says()) {
                        boolean found = mark(own, words, tested) | mark(terms, words, termsTested);
                        Due.is(test.getName() + ": the document says: " + words, found, true);
                    }
                }
            }
            Due.is("promise " + promise + " has words without a test:" + left(own, tested), left(own, tested).isEmpty(), true);
        }
        Due.is("Terms have words without a test:" + left(terms, termsTested), left(terms, termsTested).isEmpty(), true);
    }

    private static String section(String document, String from, String to) {
        int begin = document.indexOf(from) + from.length();
        int end = document.indexOf(to, begin);
        return document.substring(begin, end < 0 ? document.length() : end);
    }

    private static boolean mark(String text, String words, boolean[] tested) {
        boolean found = false;
        for (int at = text.indexOf(words); at >= 0; at = text.indexOf(words, at + 1)) {
            Arrays.fill(tested, at, at + words.length(), true);
            found = true;
        }
        return found;
    }

    private static String left(String text, boolean[] tested) {
        StringBuilder left = new StringBuilder();
        for (int i = 0; i < text.length(); i++) {
            left.append(tested[i] ? ' ' : text.charAt(i));
        }
        String words = left.toString().replaceAll("```text|```", " ").replaceAll("\\s+", " ");
        return words.matches(".*[A-Za-z0-9].*") ? words : "";
    }
}
