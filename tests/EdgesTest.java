import java.nio.file.Path;

/** Each sentence of the document that names a boundary case, on both of its sides. */
public final class EdgesTest {
  public static void main(String[] args) throws Exception {
    Edges t = new Edges(Path.of("../shared/DOC.md"));
    BeginEdges.run(t);
    TermsEdges.run(t);
    QuarterEdges.run(t);
    DaysEdges.run(t);
    SendingEdges.run(t);
    DrawsEdges.run(t);
    SheetsEdges.run(t);
    ImagesEdges.run(t);
    t.end();
  }
}
