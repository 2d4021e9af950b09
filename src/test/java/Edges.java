import java.io.IOException;
import java.nio.file.Files;
import java.nio.file.Path;
import java.util.ArrayList;
import java.util.List;
import java.util.function.Supplier;
import java.util.function.ToIntFunction;

/** Tests of single sentences of the document that name a boundary case: each sentence has a test of its own. */
final class Edges {
    static final int UNKNOWN = -1;
    static final int BAD_VALUE = -2;
    static final int FULL = -3;
    static final int NOT_POSSIBLE = -4;
    static final int NONE = -5;

    /** What is due by one sentence. */
    interface Test {
        void run(Checks checks);
    }

    /** A sentence: where it stands in the document, its words there, and the case that is looked at. */
    private record Edge(String where, String words, String about, Test test) {
        String name() {
            return where + ", \"" + words + "\" (" + about + ")";
        }
    }

    private final List<Edge> edges = new ArrayList<>();

    void add(String where, String words, String about, Test test) {
        edges.add(new Edge(where, words, about, test));
    }

    /** Runs each test, tells which sentence it is, and returns the names of those that do not hold. */
    List<String> failing() {
        List<String> failing = new ArrayList<>();
        for (Edge edge : edges) {
            Checks checks = new Checks("EdgesTest");
            checks.part(edge.name());
            try {
                edge.test().run(checks);
            } catch (RuntimeException thrown) {
                checks.holds("a call without " + thrown, false);
            }
            boolean holds = checks.wrong() == 0 && checks.made() > 0;
            System.out.println("   " + (holds ? "holds: " : "BROKEN: ") + edge.name());
            if (!holds) {
                failing.add(edge.name());
            }
        }
        System.out.println("   EdgesTest: " + edges.size() + " sentences, " + failing.size() + " broken");
        return failing;
    }

    List<String> names() {
        List<String> names = new ArrayList<>();
        for (Edge edge : edges) {
            names.add(edge.name());
        }
        return names;
    }

    /** Returns the names of the edges whose words do not stand where they say, and of those that stand here twice. */
    List<String> misquoted(Path document) throws IOException {
        String text = Files.readString(document);
        List<String> misquoted = new ArrayList<>();
        List<String> names = new ArrayList<>();
        for (Edge edge : edges) {
            if (!section(text, edge.where()).contains(edge.words()) || names.contains(edge.name())) {
                misquoted.add(edge.name());
            }
            names.add(edge.name());
        }
        return misquoted;
    }

    /** The part of the document that begins with a heading, up to the next heading of either kind. */
    private static String section(String document, String where) {
        StringBuilder section = new StringBuilder();
        boolean inside = false;
        for (String line : document.split("\n")) {
            if (line.startsWith("## ") || line.matches("[A-Z ]+")) {
                inside = line.equals(where) || line.equals("## " + where)
                    || line.toLowerCase().startsWith("## " + where + ":");
            } else if (inside) {
                section.append(line).append('\n');
            }
        }
        return section.toString();
    }

    /** Asks a call that is refused, of a web that was made for it: it answers so, and changes nothing. */
    static void refused(Checks checks, String call, int want, Supplier<PartedWebs> made,
            ToIntFunction<PartedWebs> asked) {
        PartedWebs x = made.get();
        checks.due(call, want, asked.applyAsInt(x));
        checks.same("all after " + call, Webs.whole(made.get()), Webs.whole(x));
    }

    /** Numbers of places that a web of so many places does not have. */
    static int[] noPlaces(int places) {
        return new int[] {-1, -2, places, places + 1, 10, 31, 32, -32, 64, 255, 256, -256, 65536, 1 << 30,
            Integer.MIN_VALUE, Integer.MIN_VALUE + 1, Integer.MAX_VALUE, Integer.MAX_VALUE - 1};
    }

    /** Numbers that are not 0 to most, for what is asked; some look like it when they are cut short. */
    static int[] outside(int most) {
        return new int[] {-1, most + 1, most + 2, 32, -32, 256, 65536, Integer.MIN_VALUE, Integer.MIN_VALUE + 1,
            Integer.MAX_VALUE};
    }

    /** Numbers that are no weight. */
    static int[] badWeights() {
        return new int[] {-1, -2, 100, 101, 127, 128, 256, -156, 65536, 1 << 30, Integer.MIN_VALUE,
            Integer.MIN_VALUE + 1, Integer.MAX_VALUE};
    }
}
