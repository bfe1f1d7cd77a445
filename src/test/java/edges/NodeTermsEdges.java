/** The first part of the terms: what NODES have. */
final class NodeTermsEdges {

    private static final String LEAST_FREE = "(a new one has the least number that is free)";

    private final Edges edges;

    NodeTermsEdges(Edges edges) {
        this.edges = edges;
    }

    void run() {
        edges.test(this::nodesFromZeroOn);
        edges.test(this::objectsFromZeroToTwentyThree);
        edges.test(this::leastFreeAtFirst);
        edges.test(this::leastFreeOfSeveral);
        edges.test(this::leastFreeAtTheEnd);
        edges.test(this::fieldsFromZeroToTwelve);
        edges.test(this::sixRegisters);
        edges.test(this::noExportsAndImports);
        edges.test(this::aHeapOfItsOwn);
        edges.test(this::cellsOfOneObject);
        edges.test(this::topAtFirst);
        edges.test(this::topTillCollecting);
        edges.test(this::topBehindCollecting);
        edges.test(this::newOnesAtTop);
        edges.test(this::values);
        edges.test(this::farOnesWithoutAnImport);
        edges.test(this::totalsAboveZero);
        edges.test(this::weightsAboveZero);
        edges.test(this::thirtyImports);
        edges.test(this::thirtyImportsOfOneNode);
        edges.test(this::inTheOrderOfSending);
        edges.test(this::sixtyInAll);
        edges.test(this::whatMessagesHave);
    }

    private void nodesFromZeroOn() {
        edges.ofTerms("NODES, numbered from 0 on, 5 at most.");
        FarHeaps x = new FarHeaps(5);
        for (int n = -1; n <= 5; n++) {
            edges.is("make(" + n + ", 0, 0)", x.make(n, 0, 0), n >= 0 && n < 5 ? 0 : -1);
        }
        edges.is("OBJECTS", x.count(-1, 0), 5);
    }

    private void objectsFromZeroToTwentyThree() {
        edges.ofTerms("A NODE has OBJECTS, numbered 0 .. 23");
        FarHeaps x = new FarHeaps(1);
        for (int k = 0; k <= 24; k++) {
            edges.is("make " + k, x.make(0, 0, 0), k < 24 ? k : -1);
        }
        edges.is("object(0, 23, 0)", x.object(0, 23, 0), 23);
        edges.is("object(0, 24, 0)", x.object(0, 24, 0), -2);
    }

    /** 24 OBJECTS without FIELDS, of which FIELDS of OBJECTS 0 and 1 hold all but two. */
    private static FarHeaps twoToGo(int first, int second) {
        FarHeaps x = new FarHeaps(1);
        x.make(0, 0, 12);
        x.make(0, 1, 12);
        for (int k = 2; k < 24; k++) {
            x.make(0, 2, 0);
            if (k != first && k != second) {
                x.set(0, k % 2, k / 2, 2);
            }
        }
        x.drop(0, 2);
        x.collect(0);
        return x;
    }

    private void leastFreeAtFirst() {
        edges.ofTerms(LEAST_FREE, "all are free");
        FarHeaps x = new FarHeaps(2);
        edges.is("make", x.make(1, 0, 0), 0);
        x.drop(1, 0);
        edges.is("one that is not held is not free", x.make(1, 0, 0), 1);
        x.drop(1, 0);
        x.collect(1);
        edges.is("make behind collecting", x.make(1, 0, 0), 0);
    }

    private void leastFreeOfSeveral() {
        edges.ofTerms(LEAST_FREE, "two in between are free");
        FarHeaps x = twoToGo(5, 17);
        edges.is("OBJECTS", x.count(0, 0), 22);
        edges.is("make", x.make(0, 2, 0), 5);
        edges.is("make again", x.make(0, 3, 0), 17);
        edges.is("make of a 25th", x.make(0, 4, 0), -1);
    }

    private void leastFreeAtTheEnd() {
        edges.ofTerms(LEAST_FREE, "the last is free");
        FarHeaps x = twoToGo(22, 23);
        edges.is("make", x.make(0, 2, 0), 22);
        edges.is("make again", x.make(0, 3, 0), 23);
        edges.is("make of a 25th", x.make(0, 4, 0), -1);
    }

    private void fieldsFromZeroToTwelve() {
        edges.ofTerms("each with 0 .. 12 FIELDS");
        FarHeaps x = new FarHeaps(1);
        int k = 0;
        for (int s = -1; s <= 13; s++) {
            boolean isSuch = s >= 0 && s <= 12;
            edges.is("make of " + s, x.make(0, 0, s), isSuch ? k : -1);
            k += isSuch ? 1 : 0;
        }
        edges.is("TOP", x.count(0, 5), 91);
    }

    private void sixRegisters() {
        edges.ofTerms("6 REGISTERS");
        FarHeaps x = new FarHeaps(2);
        for (int a = -1; a <= 6; a++) {
            boolean isSuch = a >= 0 && a < 6;
            edges.is("number(1, " + a + ", 10)", x.number(1, a, 10 + a) ? 1 : 0, isSuch ? 1 : 0);
        }
        for (int a = 0; a < 6; a++) {
            edges.is("register(1, " + a + ", 1)", x.register(1, a, 1), 10 + a);
            edges.is("register(0, " + a + ", 0)", x.register(0, a, 0), 0);
        }
    }

    private void noExportsAndImports() {
        edges.ofTerms("EXPORTS and IMPORTS");
        FarHeaps x = new FarHeaps(3);
        x.make(0, 0, 0);
        edges.is("EXPORTS at first", x.count(-1, 1), 0);
        edges.is("IMPORTS at first", x.count(-1, 2), 0);
        Scenes.bring(x, 0, 0, 1, 0);
        edges.is("EXPORTS of NODE 0", x.count(0, 1), 1);
        edges.is("IMPORTS of NODE 0", x.count(0, 2), 0);
        edges.is("EXPORTS of NODE 1", x.count(1, 1), 0);
        edges.is("IMPORTS of NODE 1", x.count(1, 2), 1);
        edges.is("EXPORTS in all", x.count(-1, 1), 1);
        edges.is("IMPORTS in all", x.count(-1, 2), 1);
    }

    private void aHeapOfItsOwn() {
        edges.ofTerms("and a HEAP of 160 CELLS, in which its OBJECTS lie");
        FarHeaps x = new FarHeaps(2);
        for (int k = 0; k < 12; k++) {
            edges.is("make of 13 CELLS", x.make(0, 0, 12), k);
        }
        edges.is("make of 5 CELLS behind 156", x.make(0, 0, 4), -2);
        edges.is("make of 4 CELLS behind 156", x.make(0, 0, 3), 12);
        edges.is("make of 1 CELL behind 160", x.make(0, 0, 0), -2);
        edges.is("the last CELL", x.cell(0, 159, 0), 12);
        edges.is("another NODE has a HEAP of its own", x.make(1, 0, 12), 0);
    }

    private void cellsOfOneObject() {
        edges.ofTerms("one of s FIELDS takes s + 1 CELLS from its ADDRESS on, the first for its number, then one for each FIELD.");
        FarHeaps x = new FarHeaps(1);
        x.make(0, 0, 0);
        edges.is("TOP behind one without FIELDS", x.count(0, 5), 1);
        x.make(0, 0, 12);
        edges.is("TOP behind one of 12", x.count(0, 5), 14);
        edges.is("CELL 0", x.cell(0, 0, 0), 0);
        for (int i = 1; i < 14; i++) {
            edges.is("cell(0, " + i + ", 0)", x.cell(0, i, 0), 1);
            edges.is("cell(0, " + i + ", 1)", x.cell(0, i, 1), i - 1);
        }
    }

    private void topAtFirst() {
        edges.ofTerms("TOP is the first CELL behind all that was laid", "nothing was");
        edges.is("count(0, 5)", new FarHeaps(1).count(0, 5), 0);
    }

    private void topTillCollecting() {
        edges.ofTerms("TOP is the first CELL behind all that was laid", "what is not held was laid too");
        FarHeaps x = new FarHeaps(1);
        x.make(0, 0, 2);
        x.drop(0, 0);
        edges.is("TOP", x.count(0, 5), 3);
        x.make(0, 0, 0);
        edges.is("TOP behind another", x.count(0, 5), 4);
        edges.is("its ADDRESS", x.object(0, 1, 0), 3);
    }

    private void topBehindCollecting() {
        edges.ofTerms("TOP is the first CELL behind all that was laid", "all went");
        FarHeaps x = new FarHeaps(1);
        x.make(0, 0, 12);
        x.drop(0, 0);
        x.collect(0);
        edges.is("TOP", x.count(0, 5), 0);
    }

    private void newOnesAtTop() {
        edges.ofTerms("a new OBJECT lies at TOP.");
        FarHeaps x = new FarHeaps(1);
        x.make(0, 0, 4);
        edges.is("the first", x.object(0, 0, 0), 0);
        x.make(0, 1, 0);
        edges.is("the second", x.object(0, 1, 0), 5);
        x.drop(0, 0);
        x.collect(0);
        x.make(0, 2, 0);
        edges.is("a number used again lies behind the higher one", x.object(0, 0, 0), 1);
    }

    private void values() {
        edges.ofTerms("A FIELD, a REGISTER holds a VALUE: nothing, an INT, an OBJECT of the NODE itself (LOCAL), "
            + "or an OBJECT of another NODE (FAR: that NODE, the OBJECT's number)");
        FarHeaps x = Scenes.allKinds();
        x.make(0, 5, 5);
        int[] kinds = {2, 1, 3, 2, 0};
        int[] contents = {0, 0, 100, 1, 0};
        for (int a = 0; a < 5; a++) {
            x.set(0, 5, a, a);
            edges.is("FIELD " + a + "'s kind", x.field(0, 2, a, 0), kinds[a]);
            edges.is("FIELD " + a, x.field(0, 2, a, 1), contents[a]);
            edges.is("REGISTER " + a + "'s kind", x.register(0, a, 0), kinds[a]);
            edges.is("REGISTER " + a, x.register(0, a, 1), contents[a]);
        }
    }

    private void farOnesWithoutAnImport() {
        edges.ofTerms("of which the NODE has an IMPORT then.");
        FarHeaps x = Scenes.weightOne();
        edges.is("a REGISTER holds it", x.register(1, 0, 0), 3);
        edges.is("DRY, it is there still", x.weight(1, 0, 0), 1);
        x.make(1, 1, 1);
        x.set(1, 1, 0, 0);
        x.drop(1, 0);
        x.collect(1);
        edges.is("a FIELD holds it", x.weight(1, 0, 0), 1);
        x.drop(1, 1);
        x.collect(1);
        edges.is("nothing holds it", x.weight(1, 0, 0), 0);
    }

    private void totalsAboveZero() {
        edges.ofTerms("An EXPORT of an OBJECT has a TOTAL, above 0; there is at most one of each.");
        FarHeaps x = Scenes.underWay(60);
        edges.is("EXPORTS", x.count(0, 1), 1);
        edges.is("its TOTAL", x.object(0, 0, 2), 61 * 64);
        edges.is("none of another OBJECT", x.object(1, 0, 2), 0);
        edges.is("nor of its NODE", x.count(1, 1), 0);
    }

    private void weightsAboveZero() {
        edges.ofTerms("An IMPORT of a FAR OBJECT has a WEIGHT, above 0; at most one of each");
        FarHeaps x = Scenes.underWay(60);
        x.drain(1000);
        edges.is("IMPORTS", x.count(1, 2), 1);
        edges.is("its WEIGHT", x.weight(1, 0, 0), 31 * 64);
        edges.is("two REGISTERS hold it", x.register(1, 0, 1) + x.register(1, 1, 1), 0);
        x.drop(1, 0);
        x.collect(1);
        edges.is("one REGISTER holds it", x.count(1, 2), 1);
        x.drop(1, 1);
        x.collect(1);
        edges.is("none holds it", x.count(1, 2), 0);
        edges.is("it has no WEIGHT", x.weight(1, 0, 0), 0);
    }

    private void thirtyImports() {
        edges.ofTerms("30 in a NODE in all.", "of several NODES");
        FarHeaps x = Scenes.heldImports(30);
        x.send(0, 1, 1, 4);
        edges.is("a 31st", x.come(0, 1), -2);
        x.send(2, 0, 1, 4);
        edges.is("a 31st of another NODE", x.come(2, 1), -2);
        edges.is("IMPORTS", x.count(1, 2), 30);
        x.send(2, 0, 0, 4);
        edges.is("a first of another one", x.come(2, 0), 1);
    }

    private void thirtyImportsOfOneNode() {
        edges.ofTerms("30 in a NODE in all.", "24 of one NODE");
        FarHeaps x = new FarHeaps(2);
        Scenes.giveImports(x, 0, 1, 24);
        edges.is("24 of one NODE", x.count(1, 2), 24);
        edges.is("the first", x.weight(1, 0, 0), 64);
        edges.is("the last", x.weight(1, 0, 23), 64);
    }

    private void inTheOrderOfSending() {
        edges.ofTerms("MESSAGES from one NODE to another one come in the order in which they were sent");
        FarHeaps x = new FarHeaps(2);
        x.make(0, 0, 0);
        x.make(0, 1, 0);
        Scenes.bring(x, 0, 0, 1, 0);
        x.send(1, 0, 0, 2);
        x.ask(1, 0);
        x.drop(1, 0);
        x.collect(1);
        x.send(0, 1, 1, 3);
        x.send(0, 0, 1, 3);
        edges.is("from 1 the REF", x.come(1, 0), 1);
        edges.is("from 1 the ASK", x.come(1, 0), 3);
        edges.is("from 1 the DEC", x.come(1, 0), 2);
        edges.is("from 0 the first REF", x.come(0, 1), 1);
        edges.is("OBJECT 1", x.register(1, 3, 1), 1);
        edges.is("from 0 the second REF", x.come(0, 1), 1);
        edges.is("OBJECT 0", x.register(1, 3, 1), 0);
        edges.is("from 0 the GRANT", x.come(0, 1), 4);
        edges.is("the new IMPORT has it", x.weight(1, 0, 0), 128);
    }

    private void sixtyInAll() {
        edges.ofTerms("at most 60 are UNDER WAY in all.");
        FarHeaps x = new FarHeaps(5);
        for (int n = 0; n < 5; n++) {
            x.make(n, 0, 0);
        }
        for (int i = 0; i < 60; i++) {
            int n = i % 5;
            int m = (n + 1 + i / 5 % 4) % 5;
            edges.is("send " + i, x.send(n, 0, m, 0), 64);
        }
        for (int n = 0; n < 5; n++) {
            edges.is("a 61st from " + n, x.send(n, 0, (n + 1) % 5, 0), -1);
            edges.is("those to " + n, x.count(n, 4), 12);
        }
        edges.is("UNDER WAY", x.count(-1, 4), 60);
    }

    private void whatMessagesHave() {
        edges.ofTerms("REF: an OBJECT (its NODE, number), a WEIGHT, a REGISTER. DEC, GRANT: an OBJECT, a WEIGHT. ASK: an OBJECT.");
        FarHeaps x = new FarHeaps(5);
        x.make(4, 0, 0);
        x.make(4, 0, 0);
        Scenes.bring(x, 4, 0, 0, 0);
        x.send(0, 0, 4, 5);
        x.ask(0, 0);
        x.drop(0, 0);
        x.collect(0);
        int[][] due = {{1, 401, 32, 5}, {3, 401, 0, -1}, {2, 401, 32, -1}};
        for (int i = 0; i < 3; i++) {
            for (int what = 0; what < 4; what++) {
                edges.is("message(0, 4, " + i + ", " + what + ")", x.message(0, 4, i, what), due[i][what]);
            }
        }
        x.come(0, 4);
        x.come(0, 4);
        int[] grant = {4, 401, 64, -1};
        for (int what = 0; what < 4; what++) {
            edges.is("message(4, 0, 0, " + what + ")", x.message(4, 0, 0, what), grant[what]);
        }
    }
}
