/** Promise 18. */
final class ObjectEdges {

    private final Edges edges;

    ObjectEdges(Edges edges) {
        this.edges = edges;
    }

    void run() {
        edges.test(this::firstAndLastAddress);
        edges.test(this::fewestAndMostFields);
        edges.test(this::neverAnExport);
        edges.test(this::noExportAnyMore);
        edges.test(this::held);
        edges.test(this::noSuchNode);
        edges.test(this::noSuchNumber);
        edges.test(this::aFreeNumber);
        edges.test(this::anotherWhat);
    }

    private void firstAndLastAddress() {
        edges.of(18, "Of an OBJECT: what 0: its ADDRESS", "0 and 159");
        FarHeaps x = new FarHeaps(1);
        for (int k = 0; k < 12; k++) {
            x.make(0, 0, 12);
        }
        for (int k = 12; k < 16; k++) {
            x.make(0, 0, 0);
        }
        edges.is("object(0, 0, 0)", x.object(0, 0, 0), 0);
        edges.is("object(0, 1, 0)", x.object(0, 1, 0), 13);
        edges.is("object(0, 15, 0)", x.object(0, 15, 0), 159);
    }

    private void fewestAndMostFields() {
        edges.of(18, "1: how many FIELDS", "0 and 12");
        FarHeaps x = new FarHeaps(1);
        x.make(0, 0, 0);
        x.make(0, 0, 12);
        edges.is("object(0, 0, 1)", x.object(0, 0, 1), 0);
        edges.is("object(0, 1, 1)", x.object(0, 1, 1), 12);
    }

    private void neverAnExport() {
        edges.of(18, "2: its TOTAL (0 without an EXPORT)", "never one");
        FarHeaps x = Scenes.allKinds();
        edges.is("object(0, 0, 2)", x.object(0, 0, 2), 0);
        edges.is("object(1, 0, 2)", x.object(1, 0, 2), 64);
    }

    private void noExportAnyMore() {
        edges.of(18, "2: its TOTAL (0 without an EXPORT)", "none any more");
        FarHeaps x = new FarHeaps(2);
        x.make(0, 0, 0);
        Scenes.bring(x, 0, 0, 1, 0);
        x.drop(1, 0);
        x.collect(1);
        edges.is("ahead of the DEC", x.object(0, 0, 2), 64);
        x.come(1, 0);
        edges.is("behind the DEC", x.object(0, 0, 2), 0);
    }

    private void held() {
        edges.of(18, "3: whether it is HELD (1, 0).");
        FarHeaps x = new FarHeaps(1);
        x.make(0, 5, 1);
        x.set(0, 5, 0, 5);
        edges.is("object(0, 0, 3)", x.object(0, 0, 3), 1);
        x.drop(0, 5);
        edges.is("object(0, 0, 3) of one that only itself holds", x.object(0, 0, 3), 0);
    }

    private void noSuchNode() {
        edges.of(18, "-2: no such OBJECT", "no such NODE");
        FarHeaps x = Scenes.allKinds();
        for (int n : Edges.beside(0, 1)) {
            for (int what = 0; what <= 3; what++) {
                edges.is("object(" + n + ", 0, " + what + ")", x.object(n, 0, what), -2);
            }
        }
    }

    private void noSuchNumber() {
        edges.of(18, "-2: no such OBJECT", "no such number");
        FarHeaps x = Scenes.allKinds();
        for (int k : Edges.beside(0, 23)) {
            for (int what = 0; what <= 3; what++) {
                edges.is("object(0, " + k + ", " + what + ")", x.object(0, k, what), -2);
            }
        }
        edges.is("object(1, -24, 0)", x.object(1, -24, 0), -2);
    }

    private void aFreeNumber() {
        edges.of(18, "-2: no such OBJECT", "a number that is free");
        FarHeaps x = Scenes.allKinds();
        x.drop(0, 3);
        edges.is("one that is not held", x.object(0, 1, 3), 0);
        x.collect(0);
        for (int what = 0; what <= 3; what++) {
            edges.is("one that went, " + what, x.object(0, 1, what), -2);
            edges.is("one that never was, " + what, x.object(0, 2, what), -2);
            edges.is("number 23, " + what, x.object(1, 23, what), -2);
        }
    }

    private void anotherWhat() {
        edges.of(18, "or another what.");
        FarHeaps x = Scenes.allKinds();
        for (int what : Edges.beside(0, 3)) {
            edges.is("object(0, 0, " + what + ")", x.object(0, 0, what), -2);
            edges.is("object(1, 0, " + what + ")", x.object(1, 0, what), -2);
        }
    }
}
