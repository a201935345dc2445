import java.nio.file.Files;
import java.nio.file.Path;
import java.util.ArrayList;
import java.util.HashSet;
import java.util.List;
import java.util.Set;
import java.util.regex.Matcher;
import java.util.regex.Pattern;

/** What of LANGUAGE.md can be seen from the source's words. */
public final class LanguageTest {
    private static final String[] FORBIDDEN = {
        "\\b(throw|throws|try|catch|synchronized|assert|volatile|transient|native|protected|package)\\b", "->", "::",
        "Exact\\s*\\(", "static\\s*\\{", "\\[\\]\\s*\\[\\]\\s*\\[\\]", "\\b(double|float)\\b", "\"\\s*\\+|\\+\\s*\"",
        "\\b(System\\.(?!arraycopy)|Random|Thread|hashCode|toString|Object|var)\\b", "(?m)^(?!import java\\.util\\.Arrays;)import"};

    public static void main(String[] args) throws Exception {
        String whole = Files.readString(Path.of("src/main/java/SoupNine.java"));
        for (int i = 0; i < whole.length(); i++) {
            if (whole.charAt(i) > 126) {
                Due.is("an odd sign at " + i, whole.charAt(i), ' ');
            }
        }
        String source = whole.replaceAll("(?s)/\\*.*?\\*/", "").replaceAll("//[^\n]*", "");
        for (String forbidden : FORBIDDEN) {
            Matcher m = Pattern.compile(forbidden).matcher(source);
            Due.is("found " + forbidden, m.find(), false);
        }
        Due.is("classes", matches(source, "\\bclass \\w+").size() <= 12, true);
        Due.is("classes inside are static", matches(source, "(?m)^    (?!private static final class)[^\n]*\\bclass \\w+").size(), 0);
        names(source);
        lengths(whole);
        Due.finish("LanguageTest");
    }

    private static List<String> matches(String source, String pattern) {
        List<String> found = new ArrayList<>();
        Matcher m = Pattern.compile(pattern).matcher(source);
        while (m.find()) {
            found.add(m.group(m.groupCount()));
        }
        return found;
    }

    private static void names(String source) {
        Set<String> face = new HashSet<>(matches(source, "(?m)^    public (?:int|long|boolean) (\\w+)\\("));
        Due.is("the face's methods", face.size(), 40);
        List<String> own = matches(source, "(?m)^(?:    private [\\w\\[\\] ]*?|        [\\w\\[\\] ]*?)(\\w+)\\([^()]*\\) \\{$");
        Due.is("own methods were found", own.size() > 100, true);
        for (String name : own) {
            Due.is("a method of one's own is named " + name, face.contains(name), false);
        }
        for (String parameters : matches(source, "\\(([^()]*)\\) \\{")) {
            Due.is("parameters: " + parameters, parameters.split(",").length <= 7, true);
        }
    }

    private static void lengths(String whole) {
        String[] lines = whole.split("\n");
        int began = 0;
        for (int i = 0; i < lines.length; i++) {
            if (lines[i].matches("( {4}| {8})[^ }].*\\) \\{")) {
                began = i;
            }
            if (lines[i].matches("( {4}| {8})\\}") && !lines[began].contains("class ")) {
                Due.is("lines of " + lines[began].trim(), i - began <= 60 || lines[i].startsWith("    }"), true);
            }
        }
    }
}
