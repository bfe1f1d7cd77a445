/** Promise 17. */
final class CellEdges {

    private final Edges edges;

    CellEdges(Edges edges) {
        this.edges = edges;
    }

    void run() {
        edges.test(this::anEmptyHeap);
        edges.test(this::aFullHeap);
        edges.test(this::topAndBelow);
        edges.test(this::topBehindCollecting);
        edges.test(this::firstAndLastCells);
        edges.test(this::firstAndLastNumbers);
        edges.test(this::noSuchNode);
        edges.test(this::noSuchCell);
        edges.test(this::anotherWhat);
    }

    /** OBJECT 0 of 13 CELLS, OBJECT 1 of 1, OBJECT 2 of 2. */
    private static FarHeaps threeObjects() {
        FarHeaps x = new FarHeaps(2);
        x.make(1, 0, 12);
        x.make(1, 1, 0);
        x.make(1, 2, 1);
        return x;
    }

    private void anEmptyHeap() {
        edges.of(17, "What stands in CELL i of a HEAP below TOP", "an empty HEAP");
        FarHeaps x = threeObjects();
        edges.is("cell(0, 0, 0)", x.cell(0, 0, 0), -1);
        edges.is("cell(0, 0, 1)", x.cell(0, 0, 1), -1);
        edges.is("cell(0, 159, 0)", x.cell(0, 159, 0), -1);
    }

    private void aFullHeap() {
        edges.of(17, "What stands in CELL i of a HEAP below TOP", "a full HEAP");
        FarHeaps x = new FarHeaps(1);
        for (int k = 0; k < 12; k++) {
            x.make(0, 0, 12);
        }
        x.make(0, 0, 3);
        edges.is("cell(0, 0, 0)", x.cell(0, 0, 0), 0);
        edges.is("cell(0, 159, 0)", x.cell(0, 159, 0), 12);
        edges.is("cell(0, 159, 1)", x.cell(0, 159, 1), 3);
        edges.is("cell(0, 160, 0)", x.cell(0, 160, 0), -1);
    }

    private void topAndBelow() {
        edges.of(17, "What stands in CELL i of a HEAP below TOP", "the last below TOP, and TOP");
        FarHeaps x = threeObjects();
        edges.is("TOP", x.count(1, 5), 16);
        edges.is("cell(1, 15, 0)", x.cell(1, 15, 0), 2);
        edges.is("cell(1, 15, 1)", x.cell(1, 15, 1), 1);
        edges.is("cell(1, 16, 0)", x.cell(1, 16, 0), -1);
        edges.is("cell(1, 16, 1)", x.cell(1, 16, 1), -1);
    }

    private void topBehindCollecting() {
        edges.of(17, "What stands in CELL i of a HEAP below TOP", "behind collecting");
        FarHeaps x = threeObjects();
        x.drop(1, 0);
        edges.is("cell(1, 0, 0) of one that is not held", x.cell(1, 0, 0), 0);
        x.collect(1);
        edges.is("cell(1, 0, 0)", x.cell(1, 0, 0), 1);
        edges.is("cell(1, 2, 0)", x.cell(1, 2, 0), 2);
        edges.is("cell(1, 2, 1)", x.cell(1, 2, 1), 1);
        edges.is("cell(1, 3, 0)", x.cell(1, 3, 0), -1);
        edges.is("cell(1, 15, 0)", x.cell(1, 15, 0), -1);
    }

    private void firstAndLastCells() {
        edges.of(17, "the number of the OBJECT whose it is (what 0), how far behind its ADDRESS (1)", "first and last CELLS");
        FarHeaps x = threeObjects();
        int[][] due = {{0, 0, 0}, {1, 0, 1}, {12, 0, 12}, {13, 1, 0}, {14, 2, 0}, {15, 2, 1}};
        for (int[] d : due) {
            edges.is("cell(1, " + d[0] + ", 0)", x.cell(1, d[0], 0), d[1]);
            edges.is("cell(1, " + d[0] + ", 1)", x.cell(1, d[0], 1), d[2]);
        }
    }

    private void firstAndLastNumbers() {
        edges.of(17, "the number of the OBJECT whose it is (what 0), how far behind its ADDRESS (1)", "the first and the last number");
        FarHeaps x = new FarHeaps(1);
        for (int k = 0; k < 24; k++) {
            x.make(0, 0, k == 23 ? 12 : 0);
        }
        edges.is("cell(0, 0, 0)", x.cell(0, 0, 0), 0);
        edges.is("cell(0, 22, 0)", x.cell(0, 22, 0), 22);
        edges.is("cell(0, 23, 0)", x.cell(0, 23, 0), 23);
        edges.is("cell(0, 35, 0)", x.cell(0, 35, 0), 23);
        edges.is("cell(0, 35, 1)", x.cell(0, 35, 1), 12);
        edges.is("cell(0, 36, 0)", x.cell(0, 36, 0), -1);
    }

    private void noSuchNode() {
        edges.of(17, "NONE: no such NODE, CELL", "NODE");
        FarHeaps x = threeObjects();
        for (int n : Edges.beside(0, 1)) {
            edges.is("cell(" + n + ", 0, 0)", x.cell(n, 0, 0), -1);
            edges.is("cell(" + n + ", 0, 1)", x.cell(n, 0, 1), -1);
        }
    }

    private void noSuchCell() {
        edges.of(17, "NONE: no such NODE, CELL", "CELL");
        FarHeaps x = threeObjects();
        for (int i : Edges.beside(0, 159)) {
            edges.is("cell(1, " + i + ", 0)", x.cell(1, i, 0), -1);
            edges.is("cell(1, " + i + ", 1)", x.cell(1, i, 1), -1);
        }
    }

    private void anotherWhat() {
        edges.of(17, "or another what.");
        FarHeaps x = threeObjects();
        for (int what : Edges.beside(0, 1)) {
            edges.is("cell(1, 0, " + what + ")", x.cell(1, 0, what), -1);
            edges.is("cell(1, 15, " + what + ")", x.cell(1, 15, what), -1);
        }
    }
}
