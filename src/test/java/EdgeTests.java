/** Each sentence of the document has a test of its own, which says which one it is for; none is left out. */
public final class EdgeTests {
    private EdgeTests() {
    }

    public static void main(String[] args) {
        TermEdges.run();
        TextEdges.run();
        RoundEdges.run();
        AskedEdges.run();
        HostelEdges.run();
        DeedEdges.run();
        SeenEdges.run();
        Edge.close();
        Checks.same("what of the document no test is for", Document.unquoted(), "");
        Checks.due("sections of the document", Document.sections(), 33);
        System.out.println(Edge.sentences() + " sentences");
        Checks.end();
    }
}
