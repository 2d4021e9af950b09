import java.io.IOException;
import java.nio.file.Files;
import java.nio.file.Path;
import java.util.List;

/** All promises: each sentence that names a boundary case has a test of its own, which tells the sentence. */
public final class EdgesTest {
    private EdgesTest() {
    }

    public static void main(String[] args) throws IOException {
        Edges edges = all();
        boolean holds = edges.failing().isEmpty();
        Path document = Path.of(args.length > 1 ? args[1] : "../shared/DOC.md");
        if (Files.exists(document)) {
            for (String name : edges.misquoted(document)) {
                System.out.println("   NO SUCH SENTENCE, or twice: " + name);
                holds = false;
            }
        } else {
            System.out.println("   " + document + " is not there: the sentences are not looked up");
        }
        if (!holds) {
            System.exit(1);
        }
    }

    /** The names of the sentences that do not hold. */
    static List<String> failing() {
        return all().failing();
    }

    static List<String> names() {
        return all().names();
    }

    private static Edges all() {
        Edges edges = new Edges();
        EdgesOfPlaces.addTo(edges);
        EdgesOfTexts.addTo(edges);
        EdgesOfHistory.addTo(edges);
        EdgesOfPhases.addTo(edges);
        EdgesOfPartings.addTo(edges);
        return edges;
    }
}
