import java.io.IOException;
import java.nio.file.Files;
import java.nio.file.Path;
import java.util.ArrayList;
import java.util.List;

/** The edges of some promises: each quotes the document, and no promise is without one. */
public final class Edges {
    private static final Path DOCUMENT = Path.of("../shared/DOC.md");

    private final Check check;
    private final int first;
    private final int[] count;
    private final String document;
    private final List<Edge> all = new ArrayList<>();

    public Edges(String name, int first, int last) {
        check = new Check(name);
        this.first = first;
        count = new int[last - first + 1];
        document = document();
    }

    /** The document's words; none, if it is not there: the calls show what they show all the same. */
    static String document() {
        try {
            return plain(Files.readString(DOCUMENT)).trim();
        } catch (IOException e) {
            System.out.println("the document was not found: sentences are not looked up");
            return "";
        }
    }

    private static String plain(String text) {
        return text.replaceAll("\\s+", " ");
    }

    /** An edge of a promise, named by the document's own words. */
    public Edge of(int promise, String sentence) {
        check.isTrue("promise " + promise + " is none of these", promise >= first && promise < first + count.length);
        check.isTrue("the document does not say <" + sentence + ">", document.isEmpty() || document.contains(plain(sentence)));
        count[promise - first]++;
        Edge edge = new Edge(check, promise, sentence);
        all.add(edge);
        return edge;
    }

    /** For what cannot be shown by an edge: calls beyond the document's 512. */
    public Check check() {
        return check;
    }

    public void end() {
        for (Edge edge : all) edge.end();
        for (int i = 0; i < count.length; i++) check.isTrue("promise " + (first + i) + " has an edge", count[i] > 0);
        System.out.println(all.size() + " edges");
        check.end();
    }
}
