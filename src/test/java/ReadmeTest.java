import java.io.IOException;
import java.lang.reflect.Method;
import java.lang.reflect.Modifier;
import java.nio.file.Files;
import java.nio.file.Path;
import java.util.HashMap;
import java.util.Map;
import java.util.regex.Matcher;
import java.util.regex.Pattern;

/** What README.md tells: the example answers as it says there, and no public method is left out. */
public final class ReadmeTest {
    private static final Path README = Path.of("README.md");
    private static final Pattern BLOCK = Pattern.compile("(?s)```java\n(.*?)```");
    private static final Pattern MADE = Pattern.compile("ChanceForests x = new ChanceForests\\((\\d+)\\);");
    private static final Pattern CALL = Pattern.compile("x\\.(\\w+)\\((.*?)\\); +// (-?\\d+): .*");

    public static void main(String[] args) throws ReflectiveOperationException, IOException {
        String readme = Files.readString(README);
        Map<String, Method> face = face();
        Matcher block = BLOCK.matcher(readme);
        boolean hasExample = block.find();
        Due.holds("README.md has an example", hasExample);
        if (hasExample) {
            example(block.group(1).split("\n"), face);
        }
        for (String name : face.keySet()) {
            Due.holds("README.md tells of " + name, readme.contains("`" + name + "("));
        }
        Due.end();
    }

    private static Map<String, Method> face() {
        Map<String, Method> face = new HashMap<>();
        for (Method method : ChanceForests.class.getDeclaredMethods()) {
            if (Modifier.isPublic(method.getModifiers())) {
                face.put(method.getName(), method);
            }
        }
        return face;
    }

    private static void example(String[] lines, Map<String, Method> face) throws ReflectiveOperationException {
        Matcher made = MADE.matcher(lines[0]);
        boolean isMade = made.matches();
        Due.holds("the example begins with a new object", isMade);
        if (!isMade) {
            return;
        }
        ChanceForests x = new ChanceForests(Integer.parseInt(made.group(1)));
        for (int i = 1; i < lines.length; i++) {
            Matcher call = CALL.matcher(lines[i]);
            boolean isCall = call.matches() && face.containsKey(call.group(1));
            Due.holds("a call with its answer, or nothing: " + lines[i], isCall || lines[i].isBlank());
            if (isCall) {
                Number got = (Number) face.get(call.group(1)).invoke(x, arguments(call.group(2)));
                Due.due("README.md: " + lines[i], got.longValue(), Long.parseLong(call.group(3)));
            }
        }
    }

    private static Object[] arguments(String list) {
        if (list.isBlank()) {
            return new Object[0];
        }
        String[] parts = list.split(",");
        Object[] values = new Object[parts.length];
        for (int i = 0; i < parts.length; i++) {
            values[i] = sum(parts[i]);
        }
        return values;
    }

    /** A sum of products of numbers, as in 16 * 1 + 3. */
    private static int sum(String text) {
        int sum = 0;
        for (String part : text.split("\\+")) {
            int product = 1;
            for (String factor : part.split("\\*")) {
                product *= Integer.parseInt(factor.strip());
            }
            sum += product;
        }
        return sum;
    }
}
