/** Promise 11. */
final class CollectEdges {

    private static final String HOW_MANY = "A NODE is COLLECTED: how many OBJECTS went.";

    private final Edges edges;

    CollectEdges(Edges edges) {
        this.edges = edges;
    }

    void run() {
        edges.test(this::anEmptyNode);
        edges.test(this::noneWent);
        edges.test(this::allTwentyFourWent);
        edges.test(this::aFullHeap);
        edges.test(this::noOtherNode);
        edges.test(this::noSuchNode);
        edges.test(this::nothingWasDone);
    }

    private void anEmptyNode() {
        edges.of(11, HOW_MANY, "an empty NODE");
        edges.leaves("collect(0)", 0, () -> new FarHeaps(1), x -> x.collect(0));
        edges.leaves("collect(4)", 0, () -> new FarHeaps(5), x -> x.collect(4));
    }

    private void noneWent() {
        edges.of(11, HOW_MANY, "all are held");
        edges.leaves("collect(0)", 0, Scenes::allKinds, x -> x.collect(0));
    }

    private void allTwentyFourWent() {
        edges.of(11, HOW_MANY, "24 went");
        FarHeaps x = new FarHeaps(1);
        for (int k = 0; k < 24; k++) {
            x.make(0, 0, 0);
        }
        x.drop(0, 0);
        edges.is("collect(0)", x.collect(0), 24);
        edges.is("OBJECTS", x.count(0, 0), 0);
        edges.is("collect(0) again", x.collect(0), 0);
        edges.is("make", x.make(0, 0, 0), 0);
    }

    private void aFullHeap() {
        edges.of(11, HOW_MANY, "a full HEAP");
        FarHeaps x = new FarHeaps(1);
        x.make(0, 1, 3);
        for (int k = 0; k < 12; k++) {
            x.make(0, 0, 12);
        }
        x.drop(0, 1);
        edges.is("TOP ahead", x.count(0, 5), 160);
        edges.is("collect(0)", x.collect(0), 12);
        edges.is("TOP behind", x.count(0, 5), 13);
        edges.is("the last one's ADDRESS", x.object(0, 12, 0), 0);
    }

    private void noOtherNode() {
        edges.of(11, HOW_MANY, "no other NODE's");
        FarHeaps x = new FarHeaps(3);
        for (int n = 0; n < 3; n++) {
            x.make(n, 0, 0);
            x.drop(n, 0);
        }
        edges.is("collect(1)", x.collect(1), 1);
        edges.is("OBJECTS of NODE 0", x.count(0, 0), 1);
        edges.is("OBJECTS of NODE 1", x.count(1, 0), 0);
        edges.is("OBJECTS of NODE 2", x.count(2, 0), 1);
    }

    private static FarHeaps oneNotHeld() {
        FarHeaps x = Scenes.allKinds();
        x.drop(0, 3);
        return x;
    }

    private void noSuchNode() {
        edges.of(11, "NONE: no such NODE");
        for (int n : Edges.beside(0, 1)) {
            edges.leaves("collect(" + n + ")", -1, CollectEdges::oneNotHeld, x -> x.collect(n));
        }
    }

    private void nothingWasDone() {
        edges.of(11, "-2: nothing was done.");
        edges.is("with 59 UNDER WAY", Scenes.toGiveBack(1, 59).collect(1), 1);
        edges.leaves("with 60 UNDER WAY", -2, () -> Scenes.toGiveBack(1, 60), x -> x.collect(1));
        edges.is("another NODE, without DECS", Scenes.toGiveBack(1, 60).collect(2), 1);
    }
}
