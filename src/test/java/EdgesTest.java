/** Each sentence of the document that names a boundary case, in a test of its own: see the folder edges. */
public final class EdgesTest {

    public static void main(String[] args) {
        Edges edges = new Edges();
        new NodeTermsEdges(edges).run();
        new SendingTermsEdges(edges).run();
        new CollectingTermsEdges(edges).run();
        new TrialTermsEdges(edges).run();
        new NewObjectEdges(edges).run();
        new MakeEdges(edges).run();
        new SetEdges(edges).run();
        new GetEdges(edges).run();
        new NumberAndDropEdges(edges).run();
        new SendEdges(edges).run();
        new AskEdges(edges).run();
        new ComeEdges(edges).run();
        new DrainEdges(edges).run();
        new CollectEdges(edges).run();
        new TrialEdges(edges).run();
        new SettleEdges(edges).run();
        new PassEdges(edges).run();
        new RegisterEdges(edges).run();
        new FieldEdges(edges).run();
        new CellEdges(edges).run();
        new ObjectEdges(edges).run();
        new WeightEdges(edges).run();
        new MessageEdges(edges).run();
        new CountEdges(edges).run();
        new IsEvenEdges(edges).run();
        edges.end();
    }
}
