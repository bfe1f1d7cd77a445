/** Promise 12. */
final class TrialEdges {

    private static final String NO_SUCH = "NONE, and nothing happens: no such OBJECT";

    private final Edges edges;

    TrialEdges(Edges edges) {
        this.edges = edges;
    }

    void run() {
        edges.test(this::fewest);
        edges.test(this::most);
        edges.test(this::notThoseThatAreWithout);
        edges.test(this::doesNotSucceed);
        edges.test(this::noSuchNode);
        edges.test(this::noSuchNumber);
        edges.test(this::noObjectOfThatNumber);
        edges.test(this::withoutAnExport);
        edges.test(this::withoutAnExportAnyMore);
        edges.test(this::aMessageUnderWay);
    }

    private static FarHeaps ring() {
        return Scenes.ringOfTwo(2);
    }

    private void fewest() {
        edges.of(12, "A TRIAL: how many OBJECTS were GRAY and not WITHOUT, if it SUCCEEDS", "two");
        edges.is("trial(0, 0)", ring().trial(0, 0), 2);
        edges.is("trial(1, 0)", ring().trial(1, 0), 2);
    }

    private void most() {
        edges.of(12, "A TRIAL: how many OBJECTS were GRAY and not WITHOUT, if it SUCCEEDS", "48 in two NODES");
        FarHeaps x = Scenes.longRing(2);
        edges.is("OBJECTS", x.count(-1, 0), 48);
        edges.is("trial(1, 23)", x.trial(1, 23), 48);
    }

    private void notThoseThatAreWithout() {
        edges.of(12, "A TRIAL: how many OBJECTS were GRAY and not WITHOUT, if it SUCCEEDS", "one GRAY is WITHOUT");
        FarHeaps x = new FarHeaps(2);
        x.make(0, 0, 2);
        x.make(1, 0, 1);
        x.make(0, 2, 0);
        Scenes.bring(x, 0, 0, 1, 1);
        Scenes.bring(x, 1, 0, 0, 1);
        x.set(0, 0, 0, 1);
        x.set(0, 0, 1, 2);
        x.set(1, 0, 0, 1);
        x.drop(0, 0);
        x.drop(0, 1);
        Scenes.dropAll(x, 1);
        edges.is("trial(1, 0)", x.trial(1, 0), 2);
    }

    private static FarHeaps heldRing() {
        FarHeaps x = Scenes.heldRingOfTwo(2);
        Scenes.dropAll(x, 0);
        x.drop(1, 1);
        return x;
    }

    private void doesNotSucceed() {
        edges.of(12, "0: it does not.");
        edges.leaves("trial(0, 0)", 0, TrialEdges::heldRing, x -> x.trial(0, 0));
        edges.leaves("trial(1, 0)", 0, TrialEdges::heldRing, x -> x.trial(1, 0));
    }

    private void noSuchNode() {
        edges.of(12, NO_SUCH, "no such NODE");
        for (int n : Edges.beside(0, 1)) {
            edges.leaves("trial(" + n + ", 0)", -1, TrialEdges::ring, x -> x.trial(n, 0));
        }
    }

    private void noSuchNumber() {
        edges.of(12, NO_SUCH, "no such number");
        for (int k : Edges.beside(0, 23)) {
            edges.leaves("trial(0, " + k + ")", -1, TrialEdges::ring, x -> x.trial(0, k));
        }
        edges.leaves("trial(1, -24)", -1, TrialEdges::ring, x -> x.trial(1, -24));
        edges.leaves("trial(0, 24)", -1, TrialEdges::ring, x -> x.trial(0, 24));
    }

    private void noObjectOfThatNumber() {
        edges.of(12, NO_SUCH, "a number that is free");
        edges.leaves("trial(0, 1)", -1, TrialEdges::ring, x -> x.trial(0, 1));
        edges.leaves("trial(0, 23)", -1, TrialEdges::ring, x -> x.trial(0, 23));
        FarHeaps x = ring();
        x.pass();
        edges.is("trial of one that went", x.trial(0, 0), -1);
    }

    private static FarHeaps ringAndAnother() {
        FarHeaps x = ring();
        x.make(0, 0, 1);
        x.set(0, 0, 0, 0);
        x.drop(0, 0);
        return x;
    }

    private void withoutAnExport() {
        edges.of(12, "without an EXPORT", "never");
        edges.leaves("trial(0, 1)", -1, TrialEdges::ringAndAnother, x -> x.trial(0, 1));
    }

    private static FarHeaps noExportAnyMore() {
        FarHeaps x = new FarHeaps(2);
        x.make(0, 0, 0);
        Scenes.bring(x, 0, 0, 1, 0);
        x.drop(1, 0);
        x.collect(1);
        x.drain(1000);
        return x;
    }

    private void withoutAnExportAnyMore() {
        edges.of(12, "without an EXPORT", "not any more");
        edges.leaves("trial(0, 0)", -1, TrialEdges::noExportAnyMore, x -> x.trial(0, 0));
    }

    private static FarHeaps ringAndOneUnderWay() {
        FarHeaps x = Scenes.ringOfTwo(4);
        x.make(2, 0, 0);
        x.send(2, 0, 3, 0);
        return x;
    }

    private void aMessageUnderWay() {
        edges.of(12, "or a MESSAGE is UNDER WAY.");
        edges.leaves("trial(0, 0), one between other NODES", -1, TrialEdges::ringAndOneUnderWay, x -> x.trial(0, 0));
        FarHeaps x = ringAndOneUnderWay();
        x.come(2, 3);
        edges.is("trial(0, 0) behind it", x.trial(0, 0), 2);
        edges.is("trial(1, 0) with its DECS UNDER WAY", x.trial(1, 0), -1);
    }
}
