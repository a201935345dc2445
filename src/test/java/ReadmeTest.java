import java.io.ByteArrayOutputStream;
import java.io.PrintStream;
import java.lang.reflect.Method;
import java.lang.reflect.Modifier;
import java.net.URL;
import java.net.URLClassLoader;
import java.nio.file.Files;
import java.nio.file.Path;
import java.util.regex.Matcher;
import java.util.regex.Pattern;
import javax.tools.JavaCompiler;
import javax.tools.ToolProvider;

/** README.md: its example prints what is said there, its texts have no FAULT, each method and each test is named. */
public final class ReadmeTest {
    private static final Path BUILT = Path.of("build/readme");

    public static void main(String[] args) throws Exception {
        String readme = Files.readString(Path.of("README.md"));
        JavaCompiler javac = ToolProvider.getSystemJavaCompiler();
        if (javac != null) {
            String printed = runExample(javac, block(readme, "java"));
            Due.is("the example printed\n" + printed, printed.equals(block(readme, "text")), true);
        } else {
            System.out.println("ReadmeTest: this java has no javac inside to try the example with");
        }
        tryTexts(readme);
        for (Method method : SoupNine.class.getDeclaredMethods()) {
            if (Modifier.isPublic(method.getModifiers())) {
                Due.is("named: " + method.getName(), readme.contains("`" + method.getName() + "`"), true);
            }
        }
        try (var tests = Files.newDirectoryStream(Path.of("src/test/java"), "*Test.java")) {
            for (Path test : tests) {
                String name = test.getFileName().toString().replace(".java", "");
                Due.is("named: " + name, readme.contains("| " + name + " |"), true);
            }
        }
        Due.finish("ReadmeTest");
    }

    private static String block(String readme, String language) {
        Matcher m = Pattern.compile("(?s)```" + language + "\n(.*?)```").matcher(readme);
        return m.find() ? m.group(1) : "";
    }

    private static String runExample(JavaCompiler javac, String source) throws Exception {
        Files.createDirectories(BUILT);
        Path file = BUILT.resolve("Example.java");
        Files.writeString(file, source);
        String classes = System.getProperty("java.class.path");
        int refused = javac.run(null, null, null,
                "-Xlint:all", "-Werror", "-cp", classes, "-d", BUILT.toString(), file.toString());
        Due.is("javac on the example", refused, 0);
        if (refused != 0) {
            return "";
        }
        PrintStream usual = System.out;
        ByteArrayOutputStream printed = new ByteArrayOutputStream();
        try (URLClassLoader loader = new URLClassLoader(new URL[] {BUILT.toUri().toURL()})) {
            System.setOut(new PrintStream(printed, true));
            loader.loadClass("Example").getMethod("main", String[].class).invoke(null, (Object) new String[0]);
        } finally {
            System.setOut(usual);
        }
        return printed.toString().replace("\r", "");
    }

    private static void tryTexts(String readme) {
        Matcher m = Pattern.compile("(?m)^\\| ([0-3]) \\| an? [A-Z]+ \\| `([^`]*)` \\|$").matcher(readme);
        SoupNine x = new SoupNine();
        int found = 0;
        while (m.find()) {
            Due.is("the text " + m.group(2), Due.tell(x, Integer.parseInt(m.group(1)), SoupNine.NONE, m.group(2)), 0);
            found++;
        }
        Due.is("texts", found, 4);
    }
}
