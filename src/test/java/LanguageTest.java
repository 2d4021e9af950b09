import java.io.IOException;
import java.lang.reflect.Constructor;
import java.lang.reflect.Field;
import java.lang.reflect.Method;
import java.lang.reflect.Modifier;
import java.nio.file.Files;
import java.nio.file.Path;
import java.util.Set;
import java.util.TreeSet;
import java.util.regex.Matcher;
import java.util.regex.Pattern;

/** The face of the class, and those rules of LANGUAGE.md that can be seen without reading closely. */
public final class LanguageTest {
    private static final Checks checks = new Checks("LanguageTest");
    private static final String[] FACE = {
        "int between(int,int,int)", "int clearText()", "int count(int)", "int grow()", "int join(int,int)",
        "int keep()", "int least(int)", "int leastOf(int)", "int parting(int)", "int phase(int,int)",
        "int place(int,int)", "int remove(int)", "int restore()", "int set(int,int)", "int strengthen()",
        "int swallowed(int,int,boolean)", "int tie(int,int,int)", "int tieAll()", "int tight(int)",
        "int type(char)", "int undo()", "int weight(int,int)", "int wouldBe(int,int,int)",
    };

    public static void main(String[] args) throws IOException {
        face();
        insideClasses();
        String source = Files.readString(Path.of(args.length > 0 ? args[0] : "src/main/java/PartedWebs.java"));
        forbiddenWords(source);
        methodsAreShort(source);
        checks.end();
    }

    private static void face() {
        checks.part("rule 1");
        Class<?> face = PartedWebs.class;
        checks.holds("public and final", Modifier.isPublic(face.getModifiers()) && Modifier.isFinal(face.getModifiers()));
        checks.due("constructors", 1, face.getDeclaredConstructors().length);
        for (Constructor<?> constructor : face.getDeclaredConstructors()) {
            checks.same("constructor", "public PartedWebs()", constructor.toString());
        }
        Set<String> seen = new TreeSet<>();
        Set<String> open = new TreeSet<>();
        for (Method method : face.getDeclaredMethods()) {
            if (!Modifier.isPrivate(method.getModifiers())) {
                checks.holds(method + " is public, no more", method.getModifiers() == Modifier.PUBLIC);
                seen.add(method.toString().replace("public int PartedWebs.", "int "));
                open.add(method.getName());
            }
        }
        checks.same("the methods", String.join("\n", new TreeSet<>(Set.of(FACE))), String.join("\n", seen));
        for (Method method : face.getDeclaredMethods()) {
            checks.holds(method + " has no public name",
                !Modifier.isPrivate(method.getModifiers()) || !open.contains(method.getName()));
        }
        Set<String> constants = new TreeSet<>();
        for (Field field : face.getDeclaredFields()) {
            if (!Modifier.isPrivate(field.getModifiers())) {
                checks.same("field", "public static final int PartedWebs." + field.getName(), field.toString());
                constants.add(field.getName());
            }
            checks.holds(field + " is final if static",
                !Modifier.isStatic(field.getModifiers()) || Modifier.isFinal(field.getModifiers()));
        }
        checks.same("the constants", "[BAD_VALUE, FULL, NONE, NOT_POSSIBLE, UNKNOWN]", constants.toString());
    }

    private static void insideClasses() {
        checks.part("rules 1, 2 and 11");
        checks.holds("few classes", PartedWebs.class.getDeclaredClasses().length < 12);
        Set<String> open = new TreeSet<>();
        for (String method : FACE) {
            open.add(method.substring(4, method.indexOf('(')));
        }
        for (Class<?> inside : PartedWebs.class.getDeclaredClasses()) {
            int is = inside.getModifiers();
            checks.holds(inside + " is static", Modifier.isStatic(is));
            checks.holds(inside + " is not public", !Modifier.isPublic(is) && !Modifier.isProtected(is));
            int fields = 0;
            for (Field field : inside.getDeclaredFields()) {
                fields += Modifier.isStatic(field.getModifiers()) ? 0 : 1;
            }
            checks.holds(inside + " has few fields", fields <= 20);
            for (Method method : inside.getDeclaredMethods()) {
                checks.holds(method + " has no public name", !open.contains(method.getName()));
                checks.holds(method + " has few parameters", method.getParameterCount() <= 7);
            }
        }
    }

    private static void forbiddenWords(String source) {
        checks.part("rules 2 to 6, 12 and 13");
        String code = Pattern.compile("/\\*.*?\\*/|//[^\n]*", Pattern.DOTALL).matcher(source).replaceAll("");
        Matcher word = Pattern.compile("\\b(throw|throws|try|catch|finally|synchronized|assert|instanceof|import|package"
            + "|System\\.(?!arraycopy)\\w+|Exception|Error|Random|Thread|Object|var|volatile|native|transient)\\b"
            + "|->|::|@").matcher(code);
        while (word.find()) {
            checks.holds("a code without " + word.group(), false);
        }
        for (int at = 0; at < source.length(); at++) {
            char sign = source.charAt(at);
            if (sign > 126 || sign < 32 && sign != '\n') {
                checks.holds("a source without the sign " + (int) sign, false);
            }
        }
        Matcher state = Pattern.compile("\\bstatic\\s+(?!final\\b|class\\b|int\\s+\\w+\\(|boolean\\s+\\w+\\()\\w+").matcher(code);
        while (state.find()) {
            checks.same("a static member that is no constant, no class and no function", "", state.group());
        }
    }

    private static void methodsAreShort(String source) {
        checks.part("rule 11");
        String[] lines = source.split("\n");
        int begin = 0;
        for (int at = 0; at < lines.length; at++) {
            if (lines[at].matches("    (    )?(?! )\\S.*\\) \\{")) {
                begin = at;
            }
            if (lines[at].matches("    (    )?\\}")) {
                checks.holds("the method of line " + (begin + 1) + " is short", at - begin <= 60);
            }
        }
    }
}
