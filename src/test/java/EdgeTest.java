import java.util.ArrayList;
import java.util.HashSet;
import java.util.List;
import java.util.Set;

/** Each sentence of the document that names a boundary case, in runs of calls of its own. */
public final class EdgeTest {
    private EdgeTest() {
    }

    public static void main(String[] args) {
        List<List<Edge>> groups = new ArrayList<>(FilmEdges.edges());
        groups.addAll(ShowsEdges.edges());
        groups.addAll(TextsEdges.edges());
        groups.addAll(HistoryEdges.edges());
        groups.addAll(ToldEdges.edges());
        Set<String> sentences = new HashSet<>();
        int runs = 0;
        for (List<Edge> group : groups) {
            for (Edge edge : group) {
                edge.check();
                runs += edge.runs();
                Due.at("the edges");
                Due.due("one test of its own for " + edge.sentence(), sentences.add(edge.sentence()), true);
            }
        }
        System.out.println(sentences.size() + " boundary cases in " + runs + " runs");
        Due.end();
    }
}
