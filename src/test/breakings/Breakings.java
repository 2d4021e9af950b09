import java.io.IOException;
import java.io.OutputStream;
import java.io.PrintStream;
import java.lang.reflect.Method;
import java.net.URL;
import java.net.URLClassLoader;
import java.nio.file.Files;
import java.nio.file.Path;
import java.util.ArrayList;
import java.util.List;
import java.util.Set;
import java.util.TreeSet;
import java.util.concurrent.Callable;
import java.util.concurrent.ExecutorService;
import java.util.concurrent.Executors;
import java.util.concurrent.TimeUnit;
import javax.tools.JavaCompiler;
import javax.tools.ToolProvider;

/**
 * Breaks the program in one place after the other, and tells whether the test of the sentence that is broken by it
 * fails. It rests on the program's wording, so it is no part of .ci/run.
 *
 * Arguments: the program, the file of breakings, the folder with the classes of the tests, a folder to write in.
 */
public final class Breakings {
    /** A sentence, and the places of the program that are to be other ones, so that it does not hold. */
    private record Breaking(String sentence, List<String[]> changes) {
    }

    private final String program;
    private final Path tests;
    private final Path scratch;
    private final JavaCompiler compiler = ToolProvider.getSystemJavaCompiler();
    private final ExecutorService runner = Executors.newSingleThreadExecutor(task -> {
        Thread thread = new Thread(task);
        thread.setDaemon(true);
        return thread;
    });
    private final Set<String> never = new TreeSet<>();
    private int unseen = 0;

    private Breakings(String program, Path tests, Path scratch) {
        this.program = program;
        this.tests = tests;
        this.scratch = scratch;
    }

    public static void main(String[] args) throws Exception {
        Breakings breakings = new Breakings(Files.readString(Path.of(args[0])), Path.of(args[2]), Path.of(args[3]));
        List<Breaking> all = read(Files.readAllLines(Path.of(args[1])));
        breakings.never.addAll(breakings.asked("names", breakings.tests));
        int number = 0;
        for (Breaking breaking : all) {
            number++;
            breakings.look(number, breaking);
        }
        for (String name : breakings.never) {
            System.out.println("no breaking: " + name);
        }
        System.out.println(all.size() + " breakings, " + breakings.unseen + " unseen; "
            + breakings.never.size() + " sentences without a breaking");
        System.exit(breakings.unseen == 0 && breakings.never.isEmpty() ? 0 : 1);
    }

    /** A breaking is "= sentence", and for each change "@ what stands ahead", "- what is there" and "+ what comes". */
    private static List<Breaking> read(List<String> lines) {
        List<Breaking> all = new ArrayList<>();
        String[] change = new String[3];
        for (String line : lines) {
            if (line.startsWith("= ")) {
                all.add(new Breaking(line.substring(2), new ArrayList<>()));
            } else if (line.startsWith("@ ")) {
                change = new String[] {line.substring(2), "", ""};
                all.get(all.size() - 1).changes().add(change);
            } else if (line.startsWith("-")) {
                change[1] += (change[1].isEmpty() ? "" : "\n") + line.substring(Math.min(2, line.length()));
            } else if (line.startsWith("+")) {
                change[2] += (change[2].isEmpty() ? "" : "\n") + line.substring(Math.min(2, line.length()));
            } else if (!line.isBlank() && !line.startsWith("#")) {
                throw new IllegalArgumentException("no breaking: " + line);
            }
        }
        return all;
    }

    private void look(int number, Breaking breaking) throws Exception {
        Path classes = scratch.resolve("broken-" + number);
        List<String> failing = broken(breaking, classes) ? asked("failing", classes) : List.of();
        List<String> meant = failing.stream().filter(name -> name.startsWith(breaking.sentence())).toList();
        never.removeIf(name -> name.startsWith(breaking.sentence()));
        if (meant.isEmpty()) {
            unseen++;
        }
        System.out.println((meant.isEmpty() ? "UNSEEN: " : "seen: ") + number + " " + breaking.sentence() + " ("
            + failing.size() + " tests fail)");
    }

    /** Compiles the program with the changes; says so and returns false if it can't. */
    private boolean broken(Breaking breaking, Path classes) throws IOException {
        String source = program;
        for (String[] change : breaking.changes()) {
            int at = source.indexOf(change[1], Math.max(source.indexOf(change[0]), 0));
            if (!source.contains(change[0]) || at < 0 || change[1].isEmpty()) {
                System.out.println("the program does not have: " + change[0] + " .. " + change[1]);
                return false;
            }
            source = source.substring(0, at) + change[2] + source.substring(at + change[1].length());
        }
        Files.createDirectories(classes);
        Path file = classes.resolve("PartedWebs.java");
        Files.writeString(file, source);
        return compiler.run(null, null, null, "-d", classes.toString(), file.toString()) == 0;
    }

    /** Asks EdgesTest, with the program in a folder of classes, for a list of names. */
    private List<String> asked(String what, Path classes) throws Exception {
        URL[] path = {classes.toUri().toURL(), tests.toUri().toURL()};
        PrintStream out = System.out;
        try (URLClassLoader loader = new URLClassLoader(path, ClassLoader.getPlatformClassLoader())) {
            Method method = loader.loadClass("EdgesTest").getDeclaredMethod(what);
            method.setAccessible(true);
            Callable<Object> call = () -> method.invoke(null);
            System.setOut(new PrintStream(OutputStream.nullOutputStream()));
            List<String> names = new ArrayList<>();
            for (Object name : (List<?>) runner.submit(call).get(30, TimeUnit.SECONDS)) {
                names.add((String) name);
            }
            return names;
        } finally {
            System.setOut(out);
        }
    }
}
