/** Promise 22: no call can make it false, so it is asked where a wrong sum would show. */
final class IsEvenEdges {

    private static final String TOGETHER =
        "Whether for each OBJECT with an EXPORT the TOTAL is what IMPORTS of it have, and REFS, DECS, GRANTS of it UNDER WAY, together";

    private final Edges edges;

    IsEvenEdges(Edges edges) {
        this.edges = edges;
    }

    void run() {
        edges.test(this::noExport);
        edges.test(this::eachKindUnderWay);
        edges.test(this::sixtyUnderWay);
        edges.test(this::dry);
        edges.test(this::nothingOfItIsLeft);
        edges.test(this::firstAndLastNode);
        edges.test(this::manyOfEach);
        edges.test(this::alwaysAnExport);
    }

    private void noExport() {
        edges.of(22, TOGETHER, "no EXPORT");
        edges.yes("of a new one", new FarHeaps(5).isEven());
        FarHeaps x = new FarHeaps(1);
        x.make(0, 0, 0);
        edges.yes("of an OBJECT without one", x.isEven());
    }

    private void eachKindUnderWay() {
        edges.of(22, TOGETHER, "each kind alone UNDER WAY");
        FarHeaps x = new FarHeaps(2);
        x.make(0, 0, 0);
        x.send(0, 0, 1, 0);
        edges.yes("a REF", x.isEven());
        x.come(0, 1);
        edges.yes("an IMPORT", x.isEven());
        x.ask(1, 0);
        edges.yes("an ASK, that has no WEIGHT", x.isEven());
        x.come(1, 0);
        edges.yes("a GRANT", x.isEven());
        x.drop(1, 0);
        x.collect(1);
        edges.yes("a GRANT and a DEC", x.isEven());
        x.come(1, 0);
        edges.yes("a GRANT without an IMPORT", x.isEven());
        x.come(0, 1);
        edges.yes("a DEC", x.isEven());
    }

    private void sixtyUnderWay() {
        edges.of(22, TOGETHER, "60 UNDER WAY");
        FarHeaps x = Scenes.underWay(60);
        edges.yes("60 REFS", x.isEven());
        x.send(0, 0, 1, 0);
        x.send(1, 0, 2, 0);
        edges.yes("behind what was refused", x.isEven());
    }

    private void dry() {
        edges.of(22, TOGETHER, "the least WEIGHT");
        FarHeaps x = Scenes.weightOne();
        edges.yes("WEIGHT 1", x.isEven());
        x.send(1, 0, 2, 0);
        edges.yes("behind a send that was DRY", x.isEven());
        x.send(2, 0, 1, 0);
        edges.yes("behind the split of an odd one", x.isEven());
    }

    private void nothingOfItIsLeft() {
        edges.of(22, TOGETHER, "no EXPORT any more");
        FarHeaps x = Scenes.weightOne();
        Scenes.dropAll(x, 1);
        Scenes.dropAll(x, 2);
        x.settle();
        edges.is("its TOTAL", x.object(0, 0, 2), 0);
        edges.yes("isEven()", x.isEven());
    }

    private void firstAndLastNode() {
        edges.of(22, TOGETHER, "the first and the last NODE and number");
        FarHeaps x = new FarHeaps(5);
        x.make(0, 0, 0);
        for (int k = 0; k < 24; k++) {
            x.make(4, 0, 0);
        }
        Scenes.bring(x, 0, 0, 4, 1);
        Scenes.bring(x, 4, 0, 0, 1);
        edges.yes("IMPORTS", x.isEven());
        x.send(0, 1, 4, 2);
        x.send(4, 1, 0, 2);
        edges.yes("REFS home", x.isEven());
        x.drop(0, 1);
        x.drop(4, 1);
        x.collect(0);
        x.collect(4);
        edges.yes("DECS", x.isEven());
    }

    private void manyOfEach() {
        edges.of(22, TOGETHER, "several EXPORTS, one OBJECT's in several NODES");
        FarHeaps x = Scenes.heldImports(30);
        x.send(0, 0, 2, 1);
        x.send(0, 1, 2, 2);
        x.drain(1000);
        x.send(2, 1, 1, 4);
        x.ask(2, 1);
        x.drop(2, 2);
        x.collect(2);
        edges.yes("isEven()", x.isEven());
        x.drain(1000);
        edges.yes("behind drain", x.isEven());
        x.settle();
        edges.yes("behind settle", x.isEven());
    }

    private void alwaysAnExport() {
        edges.of(22, "(there is always an EXPORT, where one of these is).");
        FarHeaps x = new FarHeaps(2);
        x.make(0, 0, 0);
        x.send(0, 0, 1, 0);
        x.drop(0, 0);
        edges.is("a REF", x.object(0, 0, 2), 64);
        x.come(0, 1);
        edges.is("an IMPORT", x.object(0, 0, 2), 64);
        x.ask(1, 0);
        x.drop(1, 0);
        x.collect(1);
        edges.is("an ASK and a DEC", x.object(0, 0, 2), 64);
        x.drain(2);
        edges.is("two DECS", x.object(0, 0, 2), 128);
        x.drain(1);
        edges.is("a DEC", x.object(0, 0, 2), 64);
        edges.is("collecting leaves it", x.collect(0), 0);
        edges.is("a DEC comes", x.come(1, 0), 2);
        edges.is("then it is none", x.object(0, 0, 2), 0);
        edges.is("and it goes", x.collect(0), 1);
    }
}
