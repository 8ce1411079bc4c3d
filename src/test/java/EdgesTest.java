import java.io.IOException;
import java.nio.file.Path;

/**
 * Each sentence of the document that names an edge, with a test of its own: the last that is taken and
 * the first that is refused, what is empty and what is full, what goes round, which of two refusals comes
 * first, and that a refused call changed nothing. Takes the project's folder.
 */
public final class EdgesTest {
    public static void main(String[] args) throws IOException {
        Path root = Path.of(args.length > 0 ? args[0] : ".");
        Edges.read(root.resolve("../shared/DOC.md"));
        EdgesOfTerms.run();
        EdgesOfWords.run();
        EdgesOfRegister.run();
        EdgesOfRounds.run();
        EdgesOfTapes.run();
        EdgesOfReadings.run();
        Edges.dueAllTold();
        Due.end();
    }
}
