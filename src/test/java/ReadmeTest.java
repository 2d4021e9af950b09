import java.io.IOException;
import java.lang.reflect.Field;
import java.lang.reflect.Method;
import java.lang.reflect.Modifier;
import java.nio.file.Files;
import java.nio.file.Path;
import java.util.regex.Matcher;
import java.util.regex.Pattern;

/** README.md: its examples answer what they say, and it names each method and each constant. */
public final class ReadmeTest {
    private static final Checks checks = new Checks("ReadmeTest");
    private static final Pattern EXAMPLE = Pattern.compile("```java\n(.*?)```", Pattern.DOTALL);
    private static final Pattern CALL = Pattern.compile("web\\.(\\w+)\\((.*)\\); +// (-?\\d+)\\b.*");

    private ReadmeTest() {
    }

    public static void main(String[] args) throws IOException, ReflectiveOperationException {
        String readme = Files.readString(Path.of("README.md"));
        int examples = 0;
        Matcher example = EXAMPLE.matcher(readme);
        while (example.find()) {
            examples++;
            checks.part("example " + examples);
            run(example.group(1).split("\n"));
        }
        checks.part("the whole page");
        checks.holds("README.md has examples", examples > 0);
        names(readme);
        checks.end();
    }

    private static void run(String[] lines) throws ReflectiveOperationException {
        checks.same("the first line", "PartedWebs web = new PartedWebs();", lines[0]);
        PartedWebs web = new PartedWebs();
        for (int at = 1; at < lines.length; at++) {
            Matcher call = CALL.matcher(lines[at]);
            if (call.matches()) {
                checks.due(lines[at], Integer.parseInt(call.group(3)), answer(web, call.group(1), call.group(2)));
            } else {
                checks.holds("a line that is a call with its answer: " + lines[at], false);
            }
        }
    }

    private static int answer(PartedWebs web, String name, String told) throws ReflectiveOperationException {
        for (Method method : PartedWebs.class.getMethods()) {
            if (method.getName().equals(name)) {
                Class<?>[] types = method.getParameterTypes();
                Object[] arguments = new Object[types.length];
                String[] words = told.split(", ");
                for (int at = 0; at < types.length; at++) {
                    arguments[at] = argument(types[at], words[at]);
                }
                return (Integer) method.invoke(web, arguments);
            }
        }
        throw new NoSuchMethodException(name);
    }

    private static Object argument(Class<?> type, String word) {
        if (type == char.class) {
            return word.charAt(1);
        }
        return type == boolean.class ? (Object) Boolean.valueOf(word) : (Object) Integer.valueOf(word);
    }

    private static void names(String readme) throws ReflectiveOperationException {
        for (Method method : PartedWebs.class.getDeclaredMethods()) {
            if (Modifier.isPublic(method.getModifiers())) {
                checks.holds("README.md names " + method.getName(), readme.contains("`" + method.getName() + "`"));
            }
        }
        for (Field field : PartedWebs.class.getDeclaredFields()) {
            if (Modifier.isPublic(field.getModifiers())) {
                String row = "| `" + field.getName() + "` | " + field.getInt(null) + " |";
                checks.holds("README.md has a row " + row, readme.contains(row));
            }
        }
    }
}
