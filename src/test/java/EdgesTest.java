/** Each sentence of the document that names a boundary case has a test of its own. */
public final class EdgesTest {
    public static void main(String[] args) {
        Sentences sentences = new Sentences("EdgesTest");
        Edges[] groups = {new OpsEdges(sentences), new CheckEdges(sentences), new RunningEdges(sentences),
            new WritingEdges(sentences), new RunEdges(sentences), new AskingEdges(sentences)};
        for (Edges group : groups) {
            group.all();
        }
        sentences.close();
    }
}
