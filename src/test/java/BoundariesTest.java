import java.io.IOException;
import java.nio.file.Path;

/** Each boundary case that the document names, by its sentence. Runs in the project's folder. */
public final class BoundariesTest {
    public static void main(String[] args) throws IOException {
        Bounds.read(Path.of("../shared/DOC.md"));
        BoundsText.all();
        BoundsLaws.all();
        BoundsRings.all();
        BoundsDeeds.all();
        BoundsCovers.all();
        BoundsFailing.all();
        BoundsPriced.all();
        BoundsTrays.all();
        Bounds.allAreNamed();
        Check.end();
    }
}
