import java.io.IOException;
import java.nio.file.Path;

/** Each sentence of the document that names a boundary case, by a test of its own; arguments: the program's path, the document's. */
public final class EdgeTest {
    private EdgeTest() {
    }

    public static void main(String[] args) throws IOException {
        EdgeKit kit = new EdgeKit(Path.of(args.length > 1 ? args[1] : "../shared/DOC.md"));
        TextEdges.run(kit);
        NightEdges.run(kit);
        KeepEdges.run(kit);
        SeenEdges.run(kit);
        ChanceEdges.run(kit);
        StateEdges.run(kit);
        kit.close("EdgeTest");
    }
}
