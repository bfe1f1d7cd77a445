/** Promise 1, and how long an object is good for. */
final class NewObjectEdges {

    private final Edges edges;

    NewObjectEdges(Edges edges) {
        this.edges = edges;
    }

    void run() {
        edges.test(this::fewestToMostNodes);
        edges.test(this::tooFewNodes);
        edges.test(this::tooManyNodes);
        edges.test(this::withNothing);
        edges.test(this::lastCall);
    }

    private void hasNodes(int asked, int due) {
        FarHeaps x = new FarHeaps(asked);
        String told = "new FarHeaps(" + asked + "): ";
        for (int n = 0; n < due; n++) {
            edges.is(told + "count(" + n + ", 0)", x.count(n, 0), 0);
            edges.is(told + "make(" + n + ", 0, 0)", x.make(n, 0, 0), 0);
        }
        edges.is(told + "count(" + due + ", 0)", x.count(due, 0), -1);
        edges.is(told + "make(" + due + ", 0, 0)", x.make(due, 0, 0), -1);
    }

    private void fewestToMostNodes() {
        edges.of(1, "n NODES (1 .. 5");
        for (int n = 1; n <= 5; n++) {
            hasNodes(n, n);
        }
    }

    private void tooFewNodes() {
        edges.of(1, "else the nearest of these", "too small");
        hasNodes(0, 1);
        hasNodes(-1, 1);
        hasNodes(Scenes.LEAST, 1);
    }

    private void tooManyNodes() {
        edges.of(1, "else the nearest of these", "too large");
        hasNodes(6, 5);
        hasNodes(7, 5);
        hasNodes(Scenes.MOST, 5);
    }

    private void withNothing() {
        edges.of(1, "with nothing.");
        FarHeaps x = new FarHeaps(5);
        for (int what = 0; what <= 6; what++) {
            edges.is("count(-1, " + what + ")", x.count(-1, what), 0);
        }
        for (int i = 0; i < 30; i++) {
            edges.is("register(" + i / 6 + ", " + i % 6 + ", 0)", x.register(i / 6, i % 6, 0), 0);
        }
        for (int n = 0; n < 5; n++) {
            edges.is("object(" + n + ", 0, 0)", x.object(n, 0, 0), -2);
            edges.is("cell(" + n + ", 0, 0)", x.cell(n, 0, 0), -1);
            for (int m = 0; m < 5; m++) {
                edges.is("message(" + m + ", " + n + ", 0, 0)", x.message(m, n, 0, 0), -1);
                edges.is("weight(" + n + ", " + m + ", 0)", x.weight(n, m, 0), 0);
            }
        }
        edges.yes("isEven()", x.isEven());
    }

    private void lastCall() {
        edges.ofHead("An object is used for at most 512 calls after it has been made");
        FarHeaps x = new FarHeaps(2);
        edges.is("call 1", x.make(0, 0, 1), 0);
        for (int call = 2; call <= 510; call++) {
            edges.yes("call " + call, x.number(1, 0, call));
        }
        edges.is("call 511", x.send(0, 0, 1, 0), 64);
        edges.is("call 512", x.come(0, 1), 1);
    }
}
