import java.lang.reflect.Constructor;
import java.lang.reflect.Field;
import java.lang.reflect.Method;
import java.lang.reflect.Modifier;
import java.nio.file.Files;
import java.nio.file.Path;
import java.util.Set;
import java.util.TreeSet;
import java.util.regex.Matcher;
import java.util.regex.Pattern;

/** The class has the members that the document's section "The public face" has, and no others that can be seen. */
public final class FaceTest {
    private static final Path DOCUMENT = Path.of("../shared/DOC.md");

    public static void main(String[] args) throws Exception {
        int modifiers = SoupNine.class.getModifiers();
        Due.is("the class is public and final", Modifier.isPublic(modifiers) && Modifier.isFinal(modifiers), true);
        Due.is("NONE", SoupNine.NONE, -1);
        for (Class<?> inside : SoupNine.class.getDeclaredClasses()) {
            int its = inside.getModifiers();
            Due.is(inside + " is static and not public",
                    Modifier.isStatic(its) && !Modifier.isPublic(its) && !Modifier.isProtected(its), true);
        }
        if (Files.exists(DOCUMENT)) {
            compare(toldByDocument(), seenOfClass());
        } else {
            System.out.println("FaceTest: no " + DOCUMENT + " to compare the class with");
        }
        Due.finish("FaceTest");
    }

    private static void compare(Set<String> told, Set<String> seen) {
        Due.is("members in the document", told.size(), 42);
        for (String member : told) {
            Due.is("the class has " + member, seen.contains(member), true);
        }
        for (String member : seen) {
            Due.is("the document has " + member, told.contains(member), true);
        }
    }

    private static Set<String> toldByDocument() throws Exception {
        String document = Files.readString(DOCUMENT);
        int begin = document.indexOf("public final class SoupNine {");
        String face = document.substring(begin, document.indexOf("\n}", begin));
        Set<String> members = new TreeSet<>();
        Matcher m = Pattern.compile("(?m)^    (public .*);$").matcher(face);
        while (m.find()) {
            members.add(m.group(1).replaceAll("(int|long|boolean) \\w+(?=[,)])", "$1").replaceAll(" = .*", ""));
        }
        return members;
    }

    private static Set<String> seenOfClass() {
        Set<String> members = new TreeSet<>();
        for (Field field : SoupNine.class.getDeclaredFields()) {
            addSeen(members, field.getModifiers(), field.getType() + " " + field.getName());
        }
        for (Constructor<?> made : SoupNine.class.getDeclaredConstructors()) {
            addSeen(members, made.getModifiers(), made.getName() + types(made.getParameterTypes()));
        }
        for (Method method : SoupNine.class.getDeclaredMethods()) {
            String named = method.getReturnType() + " " + method.getName() + types(method.getParameterTypes());
            addSeen(members, method.getModifiers(), named);
        }
        return members;
    }

    private static void addSeen(Set<String> members, int modifiers, String named) {
        if (!Modifier.isPrivate(modifiers)) {
            members.add((Modifier.toString(modifiers) + " " + named).trim());
        }
    }

    private static String types(Class<?>[] parameters) {
        StringBuilder text = new StringBuilder("(");
        for (Class<?> parameter : parameters) {
            text.append(text.length() > 1 ? ", " : "").append(parameter.getName());
        }
        return text.append(")").toString();
    }
}
