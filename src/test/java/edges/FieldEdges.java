/** Promise 16. */
final class FieldEdges {

    private static final String LIKEWISE = "Of FIELD f of OBJECT k likewise.";

    private final Edges edges;

    FieldEdges(Edges edges) {
        this.edges = edges;
    }

    void run() {
        edges.test(this::eachKind);
        edges.test(this::firstAndLastPlaces);
        edges.test(this::noSuchNode);
        edges.test(this::noSuchObject);
        edges.test(this::anObjectThatWent);
        edges.test(this::noSuchField);
        edges.test(this::anotherWhat);
    }

    private void eachKind() {
        edges.of(16, LIKEWISE, "each kind");
        FarHeaps x = Scenes.allKinds();
        x.make(0, 5, 4);
        for (int f = 0; f < 3; f++) {
            x.set(0, 5, f, f);
        }
        int[] kinds = {2, 1, 3, 0};
        int[] contents = {0, 0, 100, 0};
        for (int f = 0; f < 4; f++) {
            edges.is("field(0, 2, " + f + ", 0)", x.field(0, 2, f, 0), kinds[f]);
            edges.is("field(0, 2, " + f + ", 1)", x.field(0, 2, f, 1), contents[f]);
        }
    }

    private void firstAndLastPlaces() {
        edges.of(16, LIKEWISE, "first and last places");
        FarHeaps x = new FarHeaps(5);
        for (int k = 0; k < 23; k++) {
            x.make(4, 0, k == 0 ? 12 : 0);
            if (k == 0) {
                x.number(4, 1, Scenes.LEAST);
                x.set(4, 0, 0, 1);
            }
        }
        x.make(4, 0, 12);
        x.number(4, 1, Scenes.MOST);
        x.set(4, 0, 11, 1);
        edges.is("field(4, 0, 0, 1)", x.field(4, 0, 0, 1), Scenes.LEAST);
        edges.is("field(4, 0, 11, 0)", x.field(4, 0, 11, 0), 0);
        edges.is("field(4, 23, 0, 0)", x.field(4, 23, 0, 0), 0);
        edges.is("field(4, 23, 11, 0)", x.field(4, 23, 11, 0), 1);
        edges.is("field(4, 23, 11, 1)", x.field(4, 23, 11, 1), Scenes.MOST);
    }

    private void noSuchNode() {
        edges.of(16, LIKEWISE, "no such NODE");
        FarHeaps x = Scenes.allKinds();
        for (int n : Edges.beside(0, 1)) {
            edges.is("field(" + n + ", 0, 0, 0)", x.field(n, 0, 0, 0), -1);
        }
    }

    private void noSuchObject() {
        edges.of(16, LIKEWISE, "no such OBJECT");
        FarHeaps x = Scenes.allKinds();
        for (int k : Edges.beside(0, 23)) {
            edges.is("field(0, " + k + ", 0, 0)", x.field(0, k, 0, 0), -1);
        }
        edges.is("field(0, 2, 0, 0)", x.field(0, 2, 0, 0), -1);
        edges.is("field(0, 23, 0, 1)", x.field(0, 23, 0, 1), -1);
    }

    private void anObjectThatWent() {
        edges.of(16, LIKEWISE, "an OBJECT that went");
        FarHeaps x = Scenes.allKinds();
        x.drop(0, 0);
        edges.is("ahead of collecting", x.field(0, 0, 0, 1), 8);
        x.collect(0);
        edges.is("behind it", x.field(0, 0, 0, 1), -1);
    }

    private void noSuchField() {
        edges.of(16, LIKEWISE, "no such FIELD");
        FarHeaps x = Scenes.allKinds();
        x.make(0, 5, 12);
        for (int f : Edges.beside(0, 11)) {
            edges.is("field(0, 2, " + f + ", 0)", x.field(0, 2, f, 0), -1);
        }
        for (int f : Edges.beside(0, 1)) {
            edges.is("field(0, 0, " + f + ", 0)", x.field(0, 0, f, 0), -1);
        }
        edges.is("field(0, 1, 0, 0)", x.field(0, 1, 0, 0), -1);
    }

    private void anotherWhat() {
        edges.of(16, LIKEWISE, "another what");
        FarHeaps x = Scenes.allKinds();
        for (int what : Edges.beside(0, 1)) {
            edges.is("field(0, 0, 0, " + what + ")", x.field(0, 0, 0, what), -1);
            edges.is("field(0, 0, 1, " + what + ")", x.field(0, 0, 1, what), -1);
        }
    }
}
