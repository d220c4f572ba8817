import java.util.ArrayList;
import java.util.LinkedHashMap;
import java.util.List;
import java.util.Map;

/**
 * The sentences of the document that name a boundary case. Each has a run of calls of its own, on objects of its
 * own, and lines of the class that are broken so that the sentence holds no more: with these the run must tell it.
 */
class Edges extends Calls {
    static final String TERMS = "Terms";

    record Edge(String place, String sentence, String[] breaks, Runnable calls) {
        /** What the document has of it; behind " -- " stands which of its cases is meant. */
        String quote() {
            int end = sentence.indexOf(" -- ");
            return end < 0 ? sentence : sentence.substring(0, end);
        }

        String name() {
            return place + ": " + sentence;
        }
    }

    private static final Map<String, Edge> ALL = new LinkedHashMap<>();

    static String[] broken(String... breaks) {
        return breaks;
    }

    static String promise(int number) {
        return "Promise " + number;
    }

    static void edge(String place, String sentence, String[] breaks, Runnable calls) {
        Edge edge = new Edge(place, sentence, breaks, calls);
        if (ALL.put(edge.name(), edge) != null) {
            throw new IllegalArgumentException("told twice: " + edge.name());
        }
    }

    static List<Edge> all() {
        if (ALL.isEmpty()) {
            ActorEdges.tell();
            RunEdges.tell();
            PromiseEdges.tell();
        }
        return new ArrayList<>(ALL.values());
    }

    /** Makes the calls of one edge: whether all answers are as due (called by BrokenTest, too, by this name). */
    static boolean holds(String name) {
        for (Edge edge : all()) {
            if (edge.name().equals(name)) {
                check = new Check("edge");
                where = name;
                edge.calls().run();
                return check.isClean();
            }
        }
        throw new IllegalArgumentException("no such edge: " + name);
    }
}
