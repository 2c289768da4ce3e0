import java.io.IOException;
import java.lang.reflect.Constructor;
import java.lang.reflect.Field;
import java.lang.reflect.Method;
import java.lang.reflect.Modifier;
import java.nio.file.Files;
import java.nio.file.Path;
import java.util.List;
import java.util.Set;
import java.util.TreeSet;
import java.util.regex.Matcher;
import java.util.regex.Pattern;

/** The public face of the document, and the rules of LANGUAGE.md that members and words alone tell. */
public final class FaceTest {
    private static final Path SOURCE = Path.of("src/main/java/ChanceForests.java");

    private static final Set<String> FACE = Set.of(
        "int states()", "int way(int,int,int)", "int still(int)", "int goal(int,int)", "int actions(int)",
        "long chanceTop(int,int)", "long chanceBottom(int,int)", "long bestTop(int)", "long bestBottom(int)",
        "long worstTop(int)", "long worstBottom(int)", "int bestPlan()", "int sure()", "int hopeless()",
        "int forced()", "int compare(int,int)");

    private static final List<String> FORBIDDEN = List.of(
        "import", "package", "protected", "interface", "enum", "record", "float", "double", "throw", "try",
        "catch", "synchronized", "assert", "instanceof", "null", "String", "Math", "System", "Integer", "Long",
        "Arrays", "Object", "this\\s*\\.\\s*(?:equals|hashCode|toString|getClass)", "->", "::", "\\[\\]\\s*\\[\\]");

    public static void main(String[] args) throws IOException {
        face();
        members();
        words(withoutComments(Files.readString(SOURCE)));
        Due.end();
    }

    private static void face() {
        Class<?> c = ChanceForests.class;
        Due.due("modifiers of the class", c.getModifiers(), Modifier.PUBLIC | Modifier.FINAL);
        Due.due("constructors", c.getDeclaredConstructors().length, 1);
        Constructor<?> only = c.getDeclaredConstructors()[0];
        Due.holds("the constructor is public and takes an int", Modifier.isPublic(only.getModifiers())
            && List.of(only.getParameterTypes()).equals(List.of(int.class)));
        Set<String> found = new TreeSet<>();
        for (Method m : c.getDeclaredMethods()) {
            if (Modifier.isPublic(m.getModifiers())) {
                Due.holds(m.getName() + " has no other modifier", m.getModifiers() == Modifier.PUBLIC);
                found.add(signature(m));
            }
        }
        Due.holds("the public methods are those of the document: " + found, found.equals(FACE));
    }

    private static String signature(Method m) {
        StringBuilder types = new StringBuilder();
        for (Class<?> type : m.getParameterTypes()) {
            types.append(types.length() == 0 ? "" : ",").append(type.getName());
        }
        return m.getReturnType().getName() + " " + m.getName() + "(" + types + ")";
    }

    private static void members() {
        Class<?> c = ChanceForests.class;
        Set<String> open = new TreeSet<>();
        for (Method m : c.getDeclaredMethods()) {
            if (!Modifier.isPrivate(m.getModifiers())) {
                open.add(m.getName());
            }
        }
        for (Method m : c.getDeclaredMethods()) {
            boolean isPrivate = Modifier.isPrivate(m.getModifiers());
            Due.holds(m.getName() + " has at most seven parameters", m.getParameterCount() <= 7);
            Due.holds(m.getName() + " answers no array", !m.getReturnType().isArray());
            Due.holds(m.getName() + " does not bear a public name", !isPrivate || !open.contains(m.getName()));
        }
        int fields = 0;
        for (Field f : c.getDeclaredFields()) {
            boolean isStatic = Modifier.isStatic(f.getModifiers());
            Class<?> type = f.getType();
            Due.holds(f.getName() + " is private", Modifier.isPrivate(f.getModifiers()));
            Due.holds(f.getName() + " is a number, a boolean or a flat array of them",
                type.isPrimitive() || type.isArray() && type.getComponentType().isPrimitive());
            Due.holds(f.getName() + " is a constant int or long if static", !isStatic
                || Modifier.isFinal(f.getModifiers()) && (type == int.class || type == long.class));
            fields += isStatic ? 0 : 1;
        }
        Due.holds("at most forty fields", fields <= 40);
        Due.due("nested classes", c.getDeclaredClasses().length, 0);
    }

    private static void words(String code) {
        for (String word : FORBIDDEN) {
            boolean isName = Character.isLetter(word.charAt(0));
            Matcher m = Pattern.compile(isName ? "\\b" + word + "\\b" : word).matcher(code);
            Due.holds("the source is without " + word, !m.find());
        }
        Pattern made = Pattern.compile("^    private final \\w+\\[\\] \\w+ = new \\w+\\[[A-Z_0-9]+\\];$");
        for (String line : code.split("\n")) {
            if (line.matches(".*\\bnew\\b.*")) {
                Due.holds("made in a field's initialiser: " + line, made.matcher(line.stripTrailing()).matches());
            }
        }
    }

    private static String withoutComments(String source) {
        return source.replaceAll("(?s)/\\*.*?\\*/", "").replaceAll("//[^\n]*", "");
    }
}
