/** Promise 8. */
final class AskEdges {

    private static final String NO_SUCH = "False, and nothing happens: no such ones";
    private static final String NO_FAR = "it holds no such one";
    private static final String FULL = "60 are UNDER WAY.";

    private final Edges edges;

    AskEdges(Edges edges) {
        this.edges = edges;
    }

    void run() {
        edges.test(this::goesToItsNode);
        edges.test(this::aDryOne);
        edges.test(this::askedTwice);
        edges.test(this::noSuchNode);
        edges.test(this::noSuchRegister);
        edges.test(this::holdsNothing);
        edges.test(this::holdsAnInt);
        edges.test(this::holdsALocalOne);
        edges.test(this::theSixtieth);
        edges.test(this::aSixtyFirst);
    }

    private void goesToItsNode() {
        edges.of(8, "An ASK for the FAR OBJECT that REGISTER a holds goes to its NODE: true.", "first and last places");
        FarHeaps x = new FarHeaps(5);
        x.make(0, 0, 0);
        x.make(4, 0, 0);
        Scenes.bring(x, 0, 0, 4, 5);
        Scenes.bring(x, 4, 0, 0, 5);
        edges.yes("ask(4, 5)", x.ask(4, 5));
        edges.yes("ask(0, 5)", x.ask(0, 5));
        edges.is("an ASK from 4 to 0", x.message(4, 0, 0, 0), 3);
        edges.is("its OBJECT", x.message(4, 0, 0, 1), 0);
        edges.is("an ASK from 0 to 4", x.message(0, 4, 0, 0), 3);
        edges.is("its OBJECT", x.message(0, 4, 0, 1), 400);
        edges.is("two in all", x.count(-1, 4), 2);
        edges.is("no TOTAL is more yet", x.object(0, 0, 2), 64);
    }

    private void aDryOne() {
        edges.of(8, "An ASK for the FAR OBJECT that REGISTER a holds goes to its NODE: true.", "a DRY one");
        FarHeaps x = Scenes.weightOne();
        edges.is("send is DRY", x.send(1, 0, 2, 0), -2);
        edges.yes("ask", x.ask(1, 0));
        x.drain(1000);
        edges.is("its WEIGHT", x.weight(1, 0, 0), 65);
        edges.is("send again", x.send(1, 0, 2, 0), 32);
    }

    private void askedTwice() {
        edges.of(8, "An ASK for the FAR OBJECT that REGISTER a holds goes to its NODE: true.", "asked for already");
        FarHeaps x = Scenes.weightOne();
        edges.yes("ask", x.ask(1, 0));
        edges.yes("ask again", x.ask(1, 0));
        edges.is("UNDER WAY", x.count(0, 4), 2);
    }

    private void noSuchNode() {
        edges.of(8, NO_SUCH, "NODE");
        for (int n : Edges.beside(0, 1)) {
            edges.leavesFalse("ask(" + n + ", 2)", Scenes::allKinds, x -> x.ask(n, 2));
        }
    }

    private void noSuchRegister() {
        edges.of(8, NO_SUCH, "REGISTER");
        for (int a : Edges.beside(0, 5)) {
            edges.leavesFalse("ask(0, " + a + ")", Scenes::allKinds, x -> x.ask(0, a));
        }
    }

    private void holdsNothing() {
        edges.of(8, NO_FAR, "nothing");
        edges.leavesFalse("ask(0, 4)", Scenes::allKinds, x -> x.ask(0, 4));
    }

    private void holdsAnInt() {
        edges.of(8, NO_FAR, "an INT");
        edges.leavesFalse("ask(0, 1)", Scenes::allKinds, x -> x.ask(0, 1));
    }

    private void holdsALocalOne() {
        edges.of(8, NO_FAR, "a LOCAL OBJECT");
        edges.leavesFalse("ask(0, 0) of one without an EXPORT", Scenes::allKinds, x -> x.ask(0, 0));
        edges.leavesFalse("ask(1, 0) of one with an EXPORT", Scenes::allKinds, x -> x.ask(1, 0));
    }

    private void theSixtieth() {
        edges.of(8, FULL, "59 are");
        FarHeaps x = Scenes.underWay(59);
        edges.yes("ask", x.ask(1, 0));
        edges.is("UNDER WAY", x.count(-1, 4), 60);
    }

    private void aSixtyFirst() {
        edges.of(8, FULL, "60 are");
        edges.leavesFalse("ask", () -> Scenes.underWay(60), x -> x.ask(1, 0));
    }
}
