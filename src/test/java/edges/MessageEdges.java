/** Promise 20. */
final class MessageEdges {

    private static final String OTHERS = "NONE for others.";

    private final Edges edges;

    MessageEdges(Edges edges) {
        this.edges = edges;
    }

    void run() {
        edges.test(this::firstAndLastOfSixty);
        edges.test(this::ofThatPairAlone);
        edges.test(this::eachKind);
        edges.test(this::firstAndLastObject);
        edges.test(this::leastWeight);
        edges.test(this::weightOfAnAsk);
        edges.test(this::firstAndLastRegister);
        edges.test(this::noRegister);
        edges.test(this::noSuchNodes);
        edges.test(this::noSuchMessage);
        edges.test(this::noneUnderWay);
        edges.test(this::anotherWhat);
    }

    private void firstAndLastOfSixty() {
        edges.of(20, "Of MESSAGE i (from 0 on) of those UNDER WAY from m to n", "the first and the last of 60");
        FarHeaps x = new FarHeaps(2);
        x.make(0, 0, 0);
        for (int i = 0; i < 60; i++) {
            x.send(0, 0, 1, i % 6);
        }
        edges.is("message(0, 1, 0, 3)", x.message(0, 1, 0, 3), 0);
        edges.is("message(0, 1, 1, 3)", x.message(0, 1, 1, 3), 1);
        edges.is("message(0, 1, 59, 3)", x.message(0, 1, 59, 3), 5);
        edges.is("message(0, 1, 60, 3)", x.message(0, 1, 60, 3), -1);
        x.come(0, 1);
        edges.is("behind come, message(0, 1, 0, 3)", x.message(0, 1, 0, 3), 1);
        edges.is("behind come, message(0, 1, 58, 3)", x.message(0, 1, 58, 3), 5);
        edges.is("behind come, message(0, 1, 59, 0)", x.message(0, 1, 59, 0), -1);
    }

    private void ofThatPairAlone() {
        edges.of(20, "Of MESSAGE i (from 0 on) of those UNDER WAY from m to n", "others between other NODES");
        FarHeaps x = new FarHeaps(3);
        x.make(1, 0, 0);
        x.make(0, 0, 0);
        x.send(1, 0, 0, 1);
        x.send(1, 0, 2, 2);
        x.send(0, 0, 2, 3);
        x.send(1, 0, 2, 4);
        edges.is("message(1, 2, 0, 3)", x.message(1, 2, 0, 3), 2);
        edges.is("message(1, 2, 1, 3)", x.message(1, 2, 1, 3), 4);
        edges.is("message(1, 2, 2, 3)", x.message(1, 2, 2, 3), -1);
        edges.is("message(0, 2, 0, 3)", x.message(0, 2, 0, 3), 3);
        edges.is("message(1, 0, 0, 3)", x.message(1, 0, 0, 3), 1);
        edges.is("message(2, 1, 0, 3)", x.message(2, 1, 0, 3), -1);
    }

    /** From NODE 1 to NODE 0: an ASK, a DEC, a REF; the other way a GRANT. */
    private static FarHeaps eachKindUnderWay() {
        FarHeaps x = new FarHeaps(2);
        x.make(0, 0, 0);
        x.make(1, 0, 0);
        Scenes.bring(x, 0, 0, 1, 1);
        x.ask(1, 1);
        x.come(1, 0);
        x.ask(1, 1);
        x.drop(1, 1);
        x.collect(1);
        x.send(1, 0, 0, 3);
        return x;
    }

    private void eachKind() {
        edges.of(20, "what 0: its kind (as come())");
        FarHeaps x = eachKindUnderWay();
        edges.is("an ASK", x.message(1, 0, 0, 0), 3);
        edges.is("a DEC", x.message(1, 0, 1, 0), 2);
        edges.is("a REF", x.message(1, 0, 2, 0), 1);
        edges.is("a GRANT", x.message(0, 1, 0, 0), 4);
        edges.is("come of the ASK", x.come(1, 0), 3);
        edges.is("come of the DEC", x.come(1, 0), 2);
        edges.is("come of the REF", x.come(1, 0), 1);
        edges.is("come of the GRANT", x.come(0, 1), 4);
    }

    private void firstAndLastObject() {
        edges.of(20, "1: the OBJECT (as register())", "the first and the last");
        FarHeaps x = new FarHeaps(5);
        x.make(0, 0, 0);
        for (int k = 0; k < 24; k++) {
            x.make(4, 0, 0);
        }
        x.send(0, 0, 4, 0);
        x.send(4, 0, 0, 1);
        edges.is("message(0, 4, 0, 1)", x.message(0, 4, 0, 1), 0);
        edges.is("message(4, 0, 0, 1)", x.message(4, 0, 0, 1), 423);
        x.come(4, 0);
        x.ask(0, 1);
        edges.is("of an ASK", x.message(0, 4, 1, 1), 423);
        x.come(0, 4);
        x.come(0, 4);
        edges.is("of a GRANT", x.message(4, 0, 0, 1), 423);
        x.drop(0, 1);
        x.collect(0);
        edges.is("of a DEC", x.message(0, 4, 0, 1), 423);
    }

    private void leastWeight() {
        edges.of(20, "2: WEIGHT (0 of ASK)", "the least");
        FarHeaps x = Scenes.weightOne();
        x.drop(1, 0);
        x.collect(1);
        edges.is("a DEC of 1", x.message(1, 0, 0, 2), 1);
        for (int i = 0; i < 6; i++) {
            x.send(2, 0, 1, 0);
        }
        edges.is("a REF of 1", x.message(2, 1, 5, 2), 1);
        edges.is("a REF of 31", x.message(2, 1, 0, 2), 31);
    }

    private void weightOfAnAsk() {
        edges.of(20, "2: WEIGHT (0 of ASK)", "an ASK");
        FarHeaps x = eachKindUnderWay();
        edges.is("an ASK", x.message(1, 0, 0, 2), 0);
        edges.is("a DEC", x.message(1, 0, 1, 2), 64);
        edges.is("a REF", x.message(1, 0, 2, 2), 64);
        edges.is("a GRANT", x.message(0, 1, 0, 2), 64);
    }

    private void firstAndLastRegister() {
        edges.of(20, "3: REGISTER (NONE but of REF).", "of a REF, the first and the last");
        FarHeaps x = new FarHeaps(2);
        x.make(0, 0, 0);
        x.send(0, 0, 1, 0);
        x.send(0, 0, 1, 5);
        edges.is("message(0, 1, 0, 3)", x.message(0, 1, 0, 3), 0);
        edges.is("message(0, 1, 1, 3)", x.message(0, 1, 1, 3), 5);
    }

    private void noRegister() {
        edges.of(20, "3: REGISTER (NONE but of REF).", "of others");
        FarHeaps x = eachKindUnderWay();
        edges.is("an ASK", x.message(1, 0, 0, 3), -1);
        edges.is("a DEC", x.message(1, 0, 1, 3), -1);
        edges.is("a REF", x.message(1, 0, 2, 3), 3);
        edges.is("a GRANT", x.message(0, 1, 0, 3), -1);
        x.come(0, 1);
        edges.is("the DEC that goes back", x.message(1, 0, 3, 3), -1);
    }

    private void noSuchNodes() {
        edges.of(20, OTHERS, "no such NODES, or one and the same");
        FarHeaps x = eachKindUnderWay();
        for (int n : Edges.beside(0, 1)) {
            edges.is("message(" + n + ", 0, 0, 0)", x.message(n, 0, 0, 0), -1);
            edges.is("message(1, " + n + ", 0, 0)", x.message(1, n, 0, 0), -1);
        }
        edges.is("message(0, 0, 0, 0)", x.message(0, 0, 0, 0), -1);
        edges.is("message(1, 1, 0, 0)", x.message(1, 1, 0, 0), -1);
    }

    private void noSuchMessage() {
        edges.of(20, OTHERS, "no such i");
        FarHeaps x = eachKindUnderWay();
        for (int i : Edges.beside(0, 2)) {
            for (int what = 0; what <= 3; what++) {
                edges.is("message(1, 0, " + i + ", " + what + ")", x.message(1, 0, i, what), -1);
            }
        }
    }

    private void noneUnderWay() {
        edges.of(20, OTHERS, "none is UNDER WAY");
        FarHeaps x = Scenes.allKinds();
        for (int what = 0; what <= 3; what++) {
            edges.is("message(0, 1, 0, " + what + ")", x.message(0, 1, 0, what), -1);
            edges.is("message(1, 0, 0, " + what + ")", x.message(1, 0, 0, what), -1);
        }
    }

    private void anotherWhat() {
        edges.of(20, OTHERS, "another what");
        FarHeaps x = eachKindUnderWay();
        for (int what : Edges.beside(0, 3)) {
            for (int i = 0; i < 3; i++) {
                edges.is("message(1, 0, " + i + ", " + what + ")", x.message(1, 0, i, what), -1);
            }
        }
    }
}
