/** Promise 7. */
final class SendEdges {

    private static final String NO_SUCH = "NONE, and nothing happens: no such ones";
    private static final String FULL = "60 are UNDER WAY";

    private final Edges edges;

    SendEdges(Edges edges) {
        this.edges = edges;
    }

    void run() {
        edges.test(this::firstAndLastPlaces);
        edges.test(this::theLeastWeights);
        edges.test(this::noSuchNode);
        edges.test(this::noSuchRegister);
        edges.test(this::noSuchNodeToSendTo);
        edges.test(this::noSuchRegisterThere);
        edges.test(this::toTheNodeItself);
        edges.test(this::holdsNothing);
        edges.test(this::holdsAnInt);
        edges.test(this::theSixtieth);
        edges.test(this::aSixtyFirstOfALocalOne);
        edges.test(this::aSixtyFirstOfAFarOne);
        edges.test(this::roomAgain);
        edges.test(this::dry);
    }

    private void firstAndLastPlaces() {
        edges.of(7, "What REGISTER a holds is SENT to NODE m for its REGISTER b: the WEIGHT.", "first and last places");
        FarHeaps x = new FarHeaps(5);
        x.make(0, 5, 0);
        x.make(4, 0, 0);
        edges.is("send(0, 5, 4, 5)", x.send(0, 5, 4, 5), 64);
        edges.is("send(4, 0, 0, 0)", x.send(4, 0, 0, 0), 64);
        edges.is("the first's OBJECT", x.message(0, 4, 0, 1), 0);
        edges.is("the first's REGISTER", x.message(0, 4, 0, 3), 5);
        edges.is("the second's OBJECT", x.message(4, 0, 0, 1), 400);
        edges.is("the second's REGISTER", x.message(4, 0, 0, 3), 0);
        edges.is("nothing comes by itself", x.register(4, 5, 0), 0);
        edges.is("the REGISTER holds it still", x.register(0, 5, 0), 2);
    }

    private void theLeastWeights() {
        edges.of(7, "What REGISTER a holds is SENT to NODE m for its REGISTER b: the WEIGHT.", "WEIGHTS of 3 and 2");
        FarHeaps x = Scenes.weightOne();
        int[] sent = {31, 16, 8, 4};
        for (int w : sent) {
            edges.is("send home", x.send(2, 0, 0, 1), w);
        }
        edges.is("send of 4", x.send(2, 0, 1, 1), 2);
        x.come(2, 1);
        edges.is("2 more than 1", x.weight(1, 0, 0), 3);
        edges.is("send of 3", x.send(1, 0, 2, 1), 1);
        edges.is("the rest of 3", x.weight(1, 0, 0), 2);
        edges.is("send of 2", x.send(1, 0, 2, 1), 1);
        edges.is("the rest of 2", x.weight(1, 0, 0), 1);
    }

    private void noSuchNode() {
        edges.of(7, NO_SUCH, "NODE n");
        for (int n : Edges.beside(0, 1)) {
            edges.leaves("send(" + n + ", 0, 1, 0)", -1, Scenes::allKinds, x -> x.send(n, 0, 1, 0));
        }
    }

    private void noSuchRegister() {
        edges.of(7, NO_SUCH, "REGISTER a");
        for (int a : Edges.beside(0, 5)) {
            edges.leaves("send(0, " + a + ", 1, 0)", -1, Scenes::allKinds, x -> x.send(0, a, 1, 0));
        }
    }

    private void noSuchNodeToSendTo() {
        edges.of(7, NO_SUCH, "NODE m");
        for (int m : Edges.beside(0, 1)) {
            edges.leaves("send(0, 0, " + m + ", 0)", -1, Scenes::allKinds, x -> x.send(0, 0, m, 0));
            edges.leaves("send(0, 2, " + m + ", 0)", -1, Scenes::allKinds, x -> x.send(0, 2, m, 0));
        }
    }

    private void noSuchRegisterThere() {
        edges.of(7, NO_SUCH, "REGISTER b");
        for (int b : Edges.beside(0, 5)) {
            edges.leaves("send(0, 0, 1, " + b + ")", -1, Scenes::allKinds, x -> x.send(0, 0, 1, b));
            edges.leaves("send(0, 2, 1, " + b + ")", -1, Scenes::allKinds, x -> x.send(0, 2, 1, b));
        }
    }

    private void toTheNodeItself() {
        edges.of(7, "m is n");
        edges.leaves("send(0, 0, 0, 1) of a LOCAL one", -1, Scenes::allKinds, x -> x.send(0, 0, 0, 1));
        edges.leaves("send(0, 2, 0, 1) of a FAR one", -1, Scenes::allKinds, x -> x.send(0, 2, 0, 1));
        edges.leaves("send(1, 0, 1, 0) of the last NODE", -1, Scenes::allKinds, x -> x.send(1, 0, 1, 0));
    }

    private void holdsNothing() {
        edges.of(7, "a holds no OBJECT", "nothing");
        edges.leaves("send(0, 4, 1, 0)", -1, Scenes::allKinds, x -> x.send(0, 4, 1, 0));
    }

    private void holdsAnInt() {
        edges.of(7, "a holds no OBJECT", "an INT");
        edges.leaves("send(0, 1, 1, 0)", -1, Scenes::allKinds, x -> x.send(0, 1, 1, 0));
    }

    private void theSixtieth() {
        edges.of(7, FULL, "59 are");
        FarHeaps x = Scenes.underWay(59);
        edges.is("59 are UNDER WAY", x.count(-1, 4), 59);
        edges.is("send", x.send(0, 0, 1, 3), 64);
        edges.is("60 are UNDER WAY", x.count(-1, 4), 60);
    }

    private void aSixtyFirstOfALocalOne() {
        edges.of(7, FULL, "60 are, a LOCAL OBJECT");
        edges.leaves("send", -1, () -> Scenes.underWay(60), x -> x.send(0, 0, 1, 3));
        edges.leaves("send of one without an EXPORT", -1, () -> Scenes.underWay(60), x -> x.send(1, 2, 2, 3));
    }

    private void aSixtyFirstOfAFarOne() {
        edges.of(7, FULL, "60 are, a FAR OBJECT");
        edges.leaves("send", -1, () -> Scenes.underWay(60), x -> x.send(1, 0, 2, 3));
    }

    private void roomAgain() {
        edges.of(7, FULL, "60 were");
        FarHeaps x = Scenes.underWay(60);
        x.come(0, 1);
        edges.is("send behind one that came", x.send(1, 0, 2, 3), 64);
    }

    private void dry() {
        edges.of(7, "-2: it is DRY.");
        edges.is("its WEIGHT", Scenes.weightOne().weight(1, 0, 0), 1);
        edges.leaves("send to another NODE", -2, Scenes::weightOne, x -> x.send(1, 0, 2, 0));
        edges.leaves("send to its own NODE", -2, Scenes::weightOne, x -> x.send(1, 0, 0, 0));
    }
}
