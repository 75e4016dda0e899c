/**
 * Each sentence of the document that names a boundary case, with a test of its own: see ../edges.
 * It fails too, if a sentence that is quoted is not the document's, or one that names an edge is not quoted.
 */
public final class EdgesTest {
  public static void main(String[] args) {
    Edges.watch();
    KitchenEdges.run();
    KindEdges.run();
    TextEdges.run();
    MenuEdges.run();
    ToldEdges.run();
    HostEdges.run();
    RefusalEdges.run();
    if (Edges.end() != 0) System.exit(1);
  }
}
