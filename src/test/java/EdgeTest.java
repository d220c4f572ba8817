import java.io.IOException;
import java.nio.file.Files;
import java.nio.file.Path;
import java.util.List;

/** Every edge's calls; and that its sentence stands where it is said to in the document (run from the project's folder). */
public final class EdgeTest {
    private static final Path DOCUMENT = Path.of("..", "shared", "DOC.md");

    private EdgeTest() {
    }

    public static void main(String[] args) throws IOException {
        String document = Files.readString(DOCUMENT);
        List<Edges.Edge> edges = Edges.all();
        int wrong = 0;
        for (Edges.Edge edge : edges) {
            boolean stands = folded(section(document, edge.place())).contains(folded(edge.quote()));
            if (!stands) {
                System.out.println("EdgeTest: not in the document: " + edge.name());
            }
            wrong += stands && edge.breaks().length > 0 && Edges.holds(edge.name()) ? 0 : 1;
        }
        for (int promise = 1; promise <= 33; promise++) {
            String place = Edges.promise(promise);
            if (edges.stream().noneMatch(edge -> edge.place().equals(place))) {
                System.out.println("EdgeTest: no edge of " + place);
                wrong++;
            }
        }
        System.out.println("EdgeTest: " + edges.size() + " edges, " + wrong + " not as due");
        if (wrong != 0 || edges.isEmpty()) {
            System.exit(1);
        }
    }

    private static String section(String document, String place) {
        for (String section : document.split("\n## ")) {
            if (section.startsWith(place + ":") || section.startsWith(place + "\n")) {
                return section;
            }
        }
        return "";
    }

    private static String folded(String text) {
        return text.replaceAll("\\s+", " ");
    }
}
