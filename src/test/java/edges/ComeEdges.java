/** Promise 9. */
final class ComeEdges {

    private static final String STAYS = "-2, and it stays UNDER WAY: a REF that would be a 31st IMPORT.";

    private final Edges edges;

    ComeEdges(Edges edges) {
        this.edges = edges;
    }

    void run() {
        edges.test(this::eachKind);
        edges.test(this::firstOfSixty);
        edges.test(this::noneAtAll);
        edges.test(this::noneOfThatPair);
        edges.test(this::noSuchSendingNode);
        edges.test(this::noSuchNode);
        edges.test(this::oneAndTheSame);
        edges.test(this::theThirtieth);
        edges.test(this::aThirtyFirst);
        edges.test(this::whatIsBehindAThirtyFirst);
        edges.test(this::moreOfOneOfThirty);
        edges.test(this::moreOfTheLeastOfThirty);
        edges.test(this::oneOfItsOwn);
        edges.test(this::noRefs);
        edges.test(this::aGrantWithoutItsImport);
        edges.test(this::roomAgain);
    }

    private void eachKind() {
        edges.of(9, "The first MESSAGE from m to n COMES: 1 REF, 2 DEC, 3 ASK, 4 GRANT.", "each kind");
        FarHeaps x = new FarHeaps(2);
        x.make(0, 0, 0);
        x.send(0, 0, 1, 0);
        edges.is("a REF", x.come(0, 1), 1);
        x.ask(1, 0);
        x.drop(1, 0);
        x.collect(1);
        edges.is("an ASK", x.come(1, 0), 3);
        edges.is("a DEC", x.come(1, 0), 2);
        edges.is("a GRANT", x.come(0, 1), 4);
        edges.is("the DEC that goes back", x.come(1, 0), 2);
        edges.is("none is UNDER WAY", x.count(-1, 4), 0);
    }

    private void firstOfSixty() {
        edges.of(9, "The first MESSAGE from m to n COMES: 1 REF, 2 DEC, 3 ASK, 4 GRANT.", "the first and the last of 60");
        FarHeaps x = new FarHeaps(2);
        x.make(0, 0, 0);
        x.make(0, 1, 0);
        for (int i = 0; i < 60; i++) {
            x.send(0, i == 0 || i == 59 ? 1 : 0, 1, i % 6);
        }
        edges.is("the first", x.come(0, 1), 1);
        edges.is("its OBJECT", x.register(1, 0, 1), 1);
        edges.is("the next is the first now", x.message(0, 1, 0, 3), 1);
        for (int i = 1; i < 59; i++) {
            edges.is("come " + i, x.come(0, 1), 1);
        }
        edges.is("OBJECT 1's WEIGHT ahead of the last", x.weight(1, 0, 1), 64);
        edges.is("the last", x.come(0, 1), 1);
        edges.is("OBJECT 1's WEIGHT behind it", x.weight(1, 0, 1), 128);
        edges.is("one more", x.come(0, 1), 0);
    }

    private void noneAtAll() {
        edges.of(9, "0: there is none.", "none at all");
        edges.leaves("come(0, 1)", 0, Scenes::allKinds, x -> x.come(0, 1));
        edges.leaves("come(1, 0)", 0, Scenes::allKinds, x -> x.come(1, 0));
    }

    private static FarHeaps oneFromZeroToOne() {
        FarHeaps x = new FarHeaps(3);
        x.make(0, 0, 0);
        x.send(0, 0, 1, 0);
        return x;
    }

    private void noneOfThatPair() {
        edges.of(9, "0: there is none.", "none of that pair");
        edges.leaves("come(1, 0)", 0, ComeEdges::oneFromZeroToOne, x -> x.come(1, 0));
        edges.leaves("come(0, 2)", 0, ComeEdges::oneFromZeroToOne, x -> x.come(0, 2));
        edges.leaves("come(2, 1)", 0, ComeEdges::oneFromZeroToOne, x -> x.come(2, 1));
    }

    private void noSuchSendingNode() {
        edges.of(9, "NONE: no such NODES", "m");
        for (int m : Edges.beside(0, 2)) {
            edges.leaves("come(" + m + ", 1)", -1, ComeEdges::oneFromZeroToOne, x -> x.come(m, 1));
        }
    }

    private void noSuchNode() {
        edges.of(9, "NONE: no such NODES", "n");
        for (int n : Edges.beside(0, 2)) {
            edges.leaves("come(0, " + n + ")", -1, ComeEdges::oneFromZeroToOne, x -> x.come(0, n));
            edges.leaves("come(" + n + ", " + n + ")", -1, ComeEdges::oneFromZeroToOne, x -> x.come(n, n));
        }
    }

    private void oneAndTheSame() {
        edges.of(9, "or one and the same.");
        for (int n = 0; n < 3; n++) {
            int same = n;
            edges.leaves("come(" + n + ", " + n + ")", -1, ComeEdges::oneFromZeroToOne, x -> x.come(same, same));
        }
    }

    private void theThirtieth() {
        edges.of(9, STAYS, "a 30th");
        FarHeaps x = Scenes.heldImports(29);
        x.send(0, 1, 1, 4);
        edges.is("come", x.come(0, 1), 1);
        edges.is("IMPORTS", x.count(1, 2), 30);
        edges.is("the REGISTER holds it", x.register(1, 4, 0), 3);
    }

    private static FarHeaps aThirtyFirstUnderWay() {
        FarHeaps x = Scenes.heldImports(30);
        x.number(1, 4, 77);
        x.send(0, 1, 1, 4);
        return x;
    }

    private void aThirtyFirst() {
        edges.of(9, STAYS, "a 31st");
        edges.is("IMPORTS", aThirtyFirstUnderWay().count(1, 2), 30);
        edges.leaves("come", -2, ComeEdges::aThirtyFirstUnderWay, x -> x.come(0, 1));
    }

    private void whatIsBehindAThirtyFirst() {
        edges.of(9, STAYS, "what is behind it");
        FarHeaps x = aThirtyFirstUnderWay();
        x.send(0, 0, 1, 5);
        edges.is("come", x.come(0, 1), -2);
        edges.is("come again", x.come(0, 1), -2);
        edges.is("both are UNDER WAY", x.count(1, 4), 2);
        edges.is("the one behind it did not come", x.register(1, 5, 0), 0);
    }

    private void moreOfOneOfThirty() {
        edges.of(9, STAYS, "30 IMPORTS, a REF of one of them");
        FarHeaps x = Scenes.heldImports(30);
        x.send(0, 0, 1, 4);
        edges.is("come", x.come(0, 1), 1);
        edges.is("its WEIGHT", x.weight(1, 0, 19), 128);
        edges.is("IMPORTS", x.count(1, 2), 30);
    }

    private void moreOfTheLeastOfThirty() {
        edges.of(9, STAYS, "30 IMPORTS, a REF of one of them with WEIGHT 1");
        FarHeaps x = Scenes.heldImports(30);
        x.get(1, 1, 7, 4);
        for (int i = 0; i < 6; i++) {
            x.send(1, 4, 2, 4);
        }
        edges.is("its WEIGHT ahead", x.weight(1, 0, 19), 1);
        x.send(0, 0, 1, 4);
        edges.is("come", x.come(0, 1), 1);
        edges.is("its WEIGHT", x.weight(1, 0, 19), 65);
    }

    private void oneOfItsOwn() {
        edges.of(9, STAYS, "30 IMPORTS, a REF of an OBJECT of n");
        FarHeaps x = Scenes.heldImports(30);
        x.send(1, 0, 0, 4);
        x.drain(1000);
        x.send(0, 4, 1, 4);
        edges.is("come", x.come(0, 1), 1);
        edges.is("the REGISTER holds a LOCAL one", x.register(1, 4, 0), 2);
        edges.is("IMPORTS", x.count(1, 2), 30);
    }

    private void noRefs() {
        edges.of(9, STAYS, "30 IMPORTS, an ASK, a GRANT, a DEC");
        FarHeaps x = Scenes.heldImports(30);
        x.send(1, 0, 0, 4);
        x.drain(1000);
        x.ask(0, 4);
        x.drop(0, 4);
        x.collect(0);
        x.get(1, 0, 0, 4);
        x.ask(1, 4);
        edges.is("an ASK", x.come(0, 1), 3);
        edges.is("a DEC", x.come(0, 1), 2);
        edges.is("the other ASK", x.come(1, 0), 3);
        edges.is("a GRANT", x.come(0, 1), 4);
        edges.is("its WEIGHT", x.weight(1, 0, 0), 128);
    }

    private void aGrantWithoutItsImport() {
        edges.of(9, STAYS, "30 IMPORTS, a GRANT of another OBJECT");
        FarHeaps x = Scenes.heldImports(30);
        x.get(1, 0, 0, 4);
        x.ask(1, 4);
        x.come(1, 0);
        x.drop(1, 4);
        x.set(1, 0, 0, 4);
        x.collect(1);
        x.send(2, 0, 1, 4);
        x.come(2, 1);
        edges.is("IMPORTS", x.count(1, 2), 30);
        edges.is("come", x.come(0, 1), 4);
        edges.is("IMPORTS again", x.count(1, 2), 30);
        edges.is("the DEC that goes back", x.message(1, 0, 1, 2), 64);
    }

    private void roomAgain() {
        edges.of(9, STAYS, "30 IMPORTS, then 29");
        FarHeaps x = aThirtyFirstUnderWay();
        x.drop(1, 5);
        x.set(1, 0, 0, 5);
        edges.is("come ahead of collecting", x.come(0, 1), -2);
        x.collect(1);
        edges.is("IMPORTS", x.count(1, 2), 29);
        edges.is("come behind collecting", x.come(0, 1), 1);
        edges.is("the REGISTER holds it", x.register(1, 4, 1), 20);
    }
}
