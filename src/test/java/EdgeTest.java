/** Every boundary case that the document names, each with its promise and its sentence. */
public final class EdgeTest {
    public static void main(String[] args) throws Exception {
        Edges edges = new Edges();
        CupEdges.run(edges);
        WalkEdges.run(edges);
        SwingEdges.run(edges);
        SpillEdges.run(edges);
        FoamEdges.run(edges);
        OtherCupsEdges.run(edges);
        SpotEdges.run(edges);
        KeptEdges.run(edges);
        AheadEdges.run(edges);
        edges.end();
    }
}
