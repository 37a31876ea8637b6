import java.io.IOException;
import java.nio.file.Path;

/** Each sentence of the document that names a boundary case, promise by promise. */
public final class BoundaryTest {
    public static void main(String[] args) throws IOException {
        Sentences all = new Sentences();
        new TextBoundaries(all).test();
        new CutBoundaries(all).test();
        new NetBoundaries(all).test();
        new ApartBoundaries(all).test();
        new RecordBoundaries(all).test();
        new ShapeBoundaries(all).test();
        all.compareWith(Path.of("../shared/DOC.md"));
        System.exit(all.end());
    }
}
