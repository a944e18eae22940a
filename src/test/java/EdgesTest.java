import java.io.IOException;
import java.nio.file.Files;
import java.nio.file.Path;

/** For each sentence of the document that names a boundary a test of its own, told by its words. */
public final class EdgesTest {
    public static void main(String[] args) throws IOException {
        if (args.length < 2) {
            throw new IllegalArgumentException("the paths of MillSails.java and of DOC.md are needed");
        }
        Edges.document(Files.readString(Path.of(args[1])));
        LawnEdges.all();
        PlayEdges.all();
        StrokeEdges.all();
        RestEdges.all();
        Edges.eachPromiseHasOne(26);
        Due.end("EdgesTest");
    }
}
