/** Promise 21. */
final class CountEdges {

    private final Edges edges;

    CountEdges(Edges edges) {
        this.edges = edges;
    }

    void run() {
        edges.test(this::allAndOne);
        edges.test(this::oneNodeAlone);
        edges.test(this::fewestAndMostObjects);
        edges.test(this::fewestAndMostExports);
        edges.test(this::fewestAndMostImports);
        edges.test(this::notHeld);
        edges.test(this::fewestAndMostMessages);
        edges.test(this::topsOfEmptyAndFullHeaps);
        edges.test(this::nothingMoved);
        edges.test(this::wholeObjectsMoved);
        edges.test(this::noSuchNode);
        edges.test(this::anotherWhat);
    }

    /** The answers are due of all NODES first, then of each. */
    private void counts(FarHeaps x, int what, int... due) {
        for (int i = 0; i < due.length; i++) {
            edges.is("count(" + (i - 1) + ", " + what + ")", x.count(i - 1, what), due[i]);
        }
    }

    private void allAndOne() {
        edges.of(21, "Of all NODES (n NONE), or of one", "the first and the last");
        FarHeaps x = new FarHeaps(5);
        x.make(0, 0, 0);
        x.make(4, 0, 0);
        x.make(4, 0, 0);
        counts(x, 0, 3, 1, 0, 0, 0, 2);
    }

    private void oneNodeAlone() {
        edges.of(21, "Of all NODES (n NONE), or of one", "there is but one");
        FarHeaps x = new FarHeaps(1);
        x.make(0, 0, 3);
        counts(x, 0, 1, 1);
        counts(x, 5, 4, 4);
        edges.is("count(1, 0)", x.count(1, 0), -1);
    }

    private void fewestAndMostObjects() {
        edges.of(21, "what 0 OBJECTS", "0 and 24");
        FarHeaps x = new FarHeaps(3);
        for (int k = 0; k < 24; k++) {
            x.make(0, 0, 0);
            x.make(2, 0, 0);
        }
        x.make(0, 0, 0);
        counts(x, 0, 48, 24, 0, 24);
        x.drop(2, 0);
        counts(x, 0, 48, 24, 0, 24);
        x.collect(2);
        counts(x, 0, 24, 24, 0, 0);
    }

    private void fewestAndMostExports() {
        edges.of(21, "1 EXPORTS", "0 and 24");
        FarHeaps x = new FarHeaps(2);
        for (int k = 0; k < 24; k++) {
            x.make(0, 0, 0);
            x.send(0, 0, 1, 0);
            x.send(0, 0, 1, 0);
        }
        counts(x, 1, 24, 24, 0);
        x.drain(1000);
        x.drop(1, 0);
        x.collect(1);
        x.drain(23);
        counts(x, 1, 1, 1, 0);
        x.drain(1);
        counts(x, 1, 0, 0, 0);
    }

    private void fewestAndMostImports() {
        edges.of(21, "2 IMPORTS", "0 and 30");
        FarHeaps x = Scenes.heldImports(30);
        counts(x, 2, 30, 0, 30, 0);
        x.send(1, 0, 0, 4);
        x.send(0, 0, 1, 4);
        counts(x, 2, 30, 0, 30, 0);
        x.drain(1000);
        counts(x, 2, 31, 1, 30, 0);
        Scenes.dropAll(x, 1);
        counts(x, 2, 31, 1, 30, 0);
        x.drop(0, 4);
        edges.is("settle()", x.settle() > 0 ? 1 : 0, 1);
        counts(x, 2, 0, 0, 0, 0);
    }

    private void notHeld() {
        edges.of(21, "3 OBJECTS that are not HELD", "none and all");
        FarHeaps x = Scenes.heldRingOfTwo(3);
        x.make(2, 0, 0);
        counts(x, 3, 0, 0, 0, 0);
        Scenes.dropAll(x, 0);
        counts(x, 3, 0, 0, 0, 0);
        Scenes.dropAll(x, 1);
        counts(x, 3, 2, 1, 1, 0);
        x.drop(2, 0);
        counts(x, 3, 3, 1, 1, 1);
        x.pass();
        counts(x, 3, 0, 0, 0, 0);
    }

    private void fewestAndMostMessages() {
        edges.of(21, "4 MESSAGES UNDER WAY (to that one)", "0 and 60");
        counts(Scenes.underWay(0), 4, 0, 0, 0, 0);
        counts(Scenes.underWay(1), 4, 1, 0, 1, 0);
        FarHeaps x = Scenes.underWay(60);
        counts(x, 4, 60, 0, 30, 30);
        x.send(0, 0, 1, 0);
        counts(x, 4, 60, 0, 30, 30);
        x.drain(59);
        counts(x, 4, 1, 0, 0, 1);
    }

    private void topsOfEmptyAndFullHeaps() {
        edges.of(21, "5 TOPS together", "empty and full HEAPS");
        FarHeaps x = new FarHeaps(5);
        counts(x, 5, 0, 0, 0, 0, 0, 0);
        for (int n = 0; n < 5; n++) {
            for (int k = 0; k < 13; k++) {
                x.make(n, 0, k < 12 ? 12 : 3);
            }
        }
        counts(x, 5, 800, 160, 160, 160, 160, 160);
        x.drop(4, 0);
        counts(x, 5, 800, 160, 160, 160, 160, 160);
        x.collect(4);
        counts(x, 5, 640, 160, 160, 160, 160, 0);
    }

    private void nothingMoved() {
        edges.of(21, "6 CELLS that COLLECTING moved so far (of OBJECTS that came to lie elsewhere; an int).", "none moved");
        FarHeaps x = new FarHeaps(2);
        x.make(0, 0, 12);
        x.make(0, 1, 12);
        counts(x, 6, 0, 0, 0);
        x.collect(0);
        x.drop(0, 1);
        x.collect(0);
        counts(x, 6, 0, 0, 0);
        x.drop(0, 0);
        x.collect(0);
        counts(x, 6, 0, 0, 0);
    }

    private void wholeObjectsMoved() {
        edges.of(21, "6 CELLS that COLLECTING moved so far (of OBJECTS that came to lie elsewhere; an int).", "by one CELL, again");
        FarHeaps x = new FarHeaps(2);
        x.make(1, 0, 3);
        x.make(1, 1, 0);
        x.make(1, 2, 12);
        x.make(1, 3, 0);
        x.drop(1, 1);
        x.collect(1);
        counts(x, 6, 14, 0, 14);
        x.drop(1, 0);
        x.collect(1);
        counts(x, 6, 28, 0, 28);
        Scenes.dropAll(x, 1);
        x.collect(1);
        counts(x, 6, 28, 0, 28);
    }

    private void noSuchNode() {
        edges.of(21, "NONE for others.", "NODES");
        FarHeaps x = Scenes.allKinds();
        int[] wrong = {-2, 2, Scenes.LEAST, Scenes.MOST};
        for (int n : wrong) {
            for (int what = 0; what <= 6; what++) {
                edges.is("count(" + n + ", " + what + ")", x.count(n, what), -1);
            }
        }
    }

    private void anotherWhat() {
        edges.of(21, "NONE for others.", "what");
        FarHeaps x = Scenes.allKinds();
        for (int what : Edges.beside(0, 6)) {
            counts(x, what, -1, -1, -1);
        }
    }
}
