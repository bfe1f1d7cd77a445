/** Promise 10. */
final class DrainEdges {

    private static final String FIRST_PAIR =
        "MESSAGES come, each time the first of the first pair of NODES (by the sending one, then the other)";
    private static final String NOT_STAYING = "that has one which does not stay";

    private final Edges edges;

    DrainEdges(Edges edges) {
        this.edges = edges;
    }

    void run() {
        edges.test(this::firstAndLastPair);
        edges.test(this::backToTheFirstPair);
        edges.test(this::passesOver);
        edges.test(this::onlyStayingOnes);
        edges.test(this::untilNoneIsThere);
        edges.test(this::nothingUnderWay);
        edges.test(this::fewest);
        edges.test(this::justAsManyAsThereAre);
        edges.test(this::most);
        edges.test(this::anotherNumber);
    }

    private void firstAndLastPair() {
        edges.of(10, FIRST_PAIR, "the first and the last pair");
        FarHeaps x = new FarHeaps(5);
        x.make(4, 0, 0);
        x.make(0, 0, 0);
        x.send(4, 0, 3, 0);
        x.send(4, 0, 0, 0);
        x.send(0, 0, 4, 0);
        x.send(0, 0, 1, 0);
        int[][] pairs = {{0, 1}, {0, 4}, {4, 0}, {4, 3}};
        for (int[] pair : pairs) {
            String told = " from " + pair[0] + " to " + pair[1];
            edges.is("ahead of drain(1)" + told, x.message(pair[0], pair[1], 0, 0), 1);
            edges.is("drain(1)" + told, x.drain(1), 1);
            edges.is("behind drain(1)" + told, x.message(pair[0], pair[1], 0, 0), -1);
        }
    }

    private void backToTheFirstPair() {
        edges.of(10, FIRST_PAIR, "what is sent to an earlier pair meanwhile");
        FarHeaps x = new FarHeaps(3);
        x.make(0, 0, 0);
        Scenes.bring(x, 0, 0, 1, 0);
        x.send(1, 0, 2, 0);
        x.ask(1, 0);
        edges.is("drain(2)", x.drain(2), 2);
        edges.is("the ASK and its GRANT came", x.weight(1, 0, 0), 96);
        edges.is("the REF from 1 to 2 did not", x.message(1, 2, 0, 0), 1);
    }

    /** As Scenes.heldImports(30), with two that stay from 0 to 1, and one each from 1 to 0 and from 2 to 0. */
    private static FarHeaps twoThatStay() {
        FarHeaps x = Scenes.heldImports(30);
        x.send(0, 1, 1, 4);
        x.send(0, 0, 1, 4);
        x.send(2, 0, 0, 4);
        x.send(1, 0, 0, 5);
        return x;
    }

    private void passesOver() {
        edges.of(10, NOT_STAYING, "a pair whose first stays");
        FarHeaps x = twoThatStay();
        edges.is("drain(1)", x.drain(1), 1);
        edges.is("the one from 1 to 0 came", x.register(0, 5, 1), 100);
        edges.is("the one from 2 to 0 not yet", x.message(2, 0, 0, 0), 1);
        edges.is("drain(1000)", x.drain(1000), 1);
        edges.is("the one from 2 to 0 came", x.register(0, 4, 0), 3);
        edges.is("two stay", x.count(1, 4), 2);
    }

    private static FarHeaps onlyThoseThatStay() {
        FarHeaps x = twoThatStay();
        x.drain(1000);
        return x;
    }

    private void onlyStayingOnes() {
        edges.of(10, NOT_STAYING, "all stay");
        edges.leaves("drain(1000)", 0, DrainEdges::onlyThoseThatStay, x -> x.drain(1000));
    }

    private void untilNoneIsThere() {
        edges.of(10, "until none such is there", "fewer than k");
        FarHeaps x = Scenes.underWay(60);
        edges.is("drain(61)", x.drain(61), 60);
        edges.is("UNDER WAY", x.count(-1, 4), 0);
    }

    private void nothingUnderWay() {
        edges.of(10, "until none such is there", "none at first");
        edges.leaves("drain(1000)", 0, Scenes::allKinds, x -> x.drain(1000));
        edges.leaves("drain(1)", 0, Scenes::allKinds, x -> x.drain(1));
    }

    private void fewest() {
        edges.of(10, "or k did (0 .. 1000): how many.", "0 and 1");
        edges.leaves("drain(0)", 0, () -> Scenes.underWay(3), x -> x.drain(0));
        FarHeaps x = Scenes.underWay(3);
        edges.is("drain(1)", x.drain(1), 1);
        edges.is("UNDER WAY", x.count(-1, 4), 2);
    }

    private void justAsManyAsThereAre() {
        edges.of(10, "or k did (0 .. 1000): how many.", "k are there, and one more");
        FarHeaps x = Scenes.underWay(60);
        edges.is("drain(59)", x.drain(59), 59);
        edges.is("UNDER WAY", x.count(-1, 4), 1);
        FarHeaps y = Scenes.underWay(60);
        edges.is("drain(60)", y.drain(60), 60);
        edges.is("UNDER WAY", y.count(-1, 4), 0);
    }

    private void most() {
        edges.of(10, "or k did (0 .. 1000): how many.", "1000, with what is sent meanwhile");
        FarHeaps x = new FarHeaps(2);
        x.make(0, 0, 0);
        Scenes.bring(x, 0, 0, 1, 0);
        for (int i = 0; i < 59; i++) {
            x.ask(1, 0);
        }
        x.drop(1, 0);
        x.collect(1);
        edges.is("UNDER WAY", x.count(-1, 4), 60);
        edges.is("59 ASKS, a DEC, 59 GRANTS, 59 DECS", x.drain(1000), 178);
        edges.is("the EXPORT is none any more", x.object(0, 0, 2), 0);
    }

    private void anotherNumber() {
        edges.of(10, "NONE for another k.");
        for (int k : Edges.beside(0, 1000)) {
            edges.leaves("drain(" + k + ")", -1, () -> Scenes.underWay(3), x -> x.drain(k));
        }
    }
}
