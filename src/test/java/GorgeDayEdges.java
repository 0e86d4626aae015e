import java.io.IOException;
import java.nio.file.Path;

/** Each sentence of the document that names a boundary case, by its promise and its words. */
public final class GorgeDayEdges {
    private GorgeDayEdges() {
    }

    public static void main(String[] args) throws IOException {
        String path = System.getenv("GORGE_DOCUMENT");
        Edges.readDocument(Path.of(path == null ? "../shared/DOC.md" : path));
        EdgesOfTexts.run();
        EdgesOfOpenings.run();
        EdgesOfWater.run();
        EdgesOfPeople.run();
        EdgesOfPlans.run();
        EdgesOfRules.run();
        EdgesOfMemory.run();
        EdgesOfRefusals.run();
        if (!Edges.end()) {
            System.exit(1);
        }
    }
}
