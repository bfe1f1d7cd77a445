/** Promise 19. */
final class WeightEdges {

    private final Edges edges;

    WeightEdges(Edges edges) {
        this.edges = edges;
    }

    void run() {
        edges.test(this::theLeast);
        edges.test(this::firstAndLastPlaces);
        edges.test(this::withoutOne);
        edges.test(this::givenBack);
        edges.test(this::ofItsOwn);
        edges.test(this::underWay);
        edges.test(this::noSuchPlaces);
        edges.test(this::besideThoseThatAre);
    }

    private void theLeast() {
        edges.of(19, "The WEIGHT of NODE n's IMPORT of OBJECT k of NODE m", "1");
        FarHeaps x = Scenes.weightOne();
        edges.is("weight(1, 0, 0)", x.weight(1, 0, 0), 1);
        edges.is("weight(2, 0, 0)", x.weight(2, 0, 0), 63);
    }

    private void firstAndLastPlaces() {
        edges.of(19, "The WEIGHT of NODE n's IMPORT of OBJECT k of NODE m", "first and last places");
        FarHeaps x = new FarHeaps(5);
        x.make(0, 0, 0);
        for (int k = 0; k < 24; k++) {
            x.make(4, 0, 0);
        }
        Scenes.bring(x, 4, 0, 0, 1);
        Scenes.bring(x, 0, 0, 4, 1);
        edges.is("weight(0, 4, 23)", x.weight(0, 4, 23), 64);
        edges.is("weight(4, 0, 0)", x.weight(4, 0, 0), 64);
    }

    private void withoutOne() {
        edges.of(19, "0 without one.", "never one");
        FarHeaps x = Scenes.weightOne();
        edges.is("weight(2, 1, 0)", x.weight(2, 1, 0), 0);
        edges.is("weight(1, 0, 1)", x.weight(1, 0, 1), 0);
        edges.is("weight(1, 0, 23)", x.weight(1, 0, 23), 0);
    }

    private void givenBack() {
        edges.of(19, "0 without one.", "given back");
        FarHeaps x = Scenes.weightOne();
        x.drop(1, 0);
        edges.is("ahead of collecting", x.weight(1, 0, 0), 1);
        x.collect(1);
        edges.is("behind it", x.weight(1, 0, 0), 0);
    }

    private void ofItsOwn() {
        edges.of(19, "0 without one.", "an OBJECT of the NODE itself");
        FarHeaps x = Scenes.weightOne();
        edges.is("weight(0, 0, 0)", x.weight(0, 0, 0), 0);
        x.send(2, 0, 0, 1);
        x.drain(1000);
        edges.is("weight(0, 0, 0) behind a REF home", x.weight(0, 0, 0), 0);
    }

    private void underWay() {
        edges.of(19, "0 without one.", "its REF is UNDER WAY");
        FarHeaps x = new FarHeaps(2);
        x.make(0, 0, 0);
        x.send(0, 0, 1, 0);
        edges.is("weight(1, 0, 0)", x.weight(1, 0, 0), 0);
        x.come(0, 1);
        edges.is("weight(1, 0, 0) behind it", x.weight(1, 0, 0), 64);
    }

    private void noSuchPlaces() {
        edges.of(19, "0 without one.", "no such NODES, no such number");
        FarHeaps x = Scenes.weightOne();
        for (int i : Edges.beside(0, 2)) {
            edges.is("weight(" + i + ", 0, 0)", x.weight(i, 0, 0), 0);
            edges.is("weight(1, " + i + ", 0)", x.weight(1, i, 0), 0);
        }
        for (int k : Edges.beside(0, 23)) {
            edges.is("weight(1, 0, " + k + ")", x.weight(1, 0, k), 0);
        }
        edges.is("weight(1, 1, -24)", x.weight(1, 1, -24), 0);
        edges.is("weight(1, -1, 24)", x.weight(1, -1, 24), 0);
    }

    private void besideThoseThatAre() {
        edges.of(19, "0 without one.", "numbers beside those of another NODE");
        FarHeaps x = new FarHeaps(4);
        for (int k = 0; k < 24; k++) {
            x.make(1, 0, 0);
        }
        x.make(2, 0, 0);
        Scenes.bring(x, 1, 0, 0, 0);
        Scenes.bring(x, 2, 0, 0, 1);
        edges.is("weight(0, 1, 23)", x.weight(0, 1, 23), 64);
        edges.is("weight(0, 2, -1)", x.weight(0, 2, -1), 0);
        edges.is("weight(0, 2, 0)", x.weight(0, 2, 0), 64);
        edges.is("weight(0, 1, 24)", x.weight(0, 1, 24), 0);
        edges.is("weight(0, 3, -24)", x.weight(0, 3, -24), 0);
    }
}
