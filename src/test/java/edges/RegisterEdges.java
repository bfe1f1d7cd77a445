/** Promise 15. */
final class RegisterEdges {

    private final Edges edges;

    RegisterEdges(Edges edges) {
        this.edges = edges;
    }

    void run() {
        edges.test(this::kinds);
        edges.test(this::leastAndMostInts);
        edges.test(this::firstAndLastObjects);
        edges.test(this::nothing);
        edges.test(this::nothingAnyMore);
        edges.test(this::noSuchNode);
        edges.test(this::noSuchRegister);
        edges.test(this::anotherWhat);
    }

    private void kinds() {
        edges.of(15, "Of what REGISTER a holds: what 0: 0 nothing, 1 an INT, 2 a LOCAL OBJECT, 3 a FAR one");
        FarHeaps x = Scenes.allKinds();
        int[] due = {2, 1, 3, 2, 0, 0};
        for (int a = 0; a < 6; a++) {
            edges.is("register(0, " + a + ", 0)", x.register(0, a, 0), due[a]);
        }
    }

    private void leastAndMostInts() {
        edges.of(15, "1: the INT, or 100 times the OBJECT's NODE and its number", "INTS");
        FarHeaps x = new FarHeaps(1);
        int[] ints = {Scenes.LEAST, Scenes.MOST, -1, 0, 1, -2};
        for (int v : ints) {
            x.number(0, 0, v);
            edges.is("the INT " + v, x.register(0, 0, 1), v);
        }
    }

    private void firstAndLastObjects() {
        edges.of(15, "1: the INT, or 100 times the OBJECT's NODE and its number", "OBJECTS");
        FarHeaps x = new FarHeaps(5);
        x.make(0, 0, 0);
        for (int k = 0; k < 24; k++) {
            x.make(4, 0, 0);
        }
        Scenes.bring(x, 0, 0, 4, 1);
        Scenes.bring(x, 4, 0, 0, 1);
        edges.is("the first, LOCAL", x.register(0, 0, 1), 0);
        edges.is("the first, FAR", x.register(4, 1, 1), 0);
        edges.is("the last, LOCAL", x.register(4, 0, 1), 423);
        edges.is("the last, FAR", x.register(0, 1, 1), 423);
    }

    private void nothing() {
        edges.of(15, "(0 of nothing)", "never anything");
        FarHeaps x = new FarHeaps(5);
        edges.is("register(0, 0, 1)", x.register(0, 0, 1), 0);
        edges.is("register(4, 5, 1)", x.register(4, 5, 1), 0);
    }

    private void nothingAnyMore() {
        edges.of(15, "(0 of nothing)", "something ahead");
        FarHeaps x = Scenes.allKinds();
        x.number(0, 1, 55);
        for (int a = 0; a < 4; a++) {
            x.drop(0, a);
            edges.is("register(0, " + a + ", 1)", x.register(0, a, 1), 0);
        }
    }

    private void noSuchNode() {
        edges.of(15, "NONE: no such one", "NODE");
        FarHeaps x = Scenes.allKinds();
        for (int n : Edges.beside(0, 1)) {
            edges.is("register(" + n + ", 0, 0)", x.register(n, 0, 0), -1);
            edges.is("register(" + n + ", 0, 1)", x.register(n, 0, 1), -1);
        }
    }

    private void noSuchRegister() {
        edges.of(15, "NONE: no such one", "REGISTER");
        FarHeaps x = Scenes.allKinds();
        for (int a : Edges.beside(0, 5)) {
            edges.is("register(0, " + a + ", 0)", x.register(0, a, 0), -1);
            edges.is("register(0, " + a + ", 1)", x.register(0, a, 1), -1);
        }
    }

    private void anotherWhat() {
        edges.of(15, "or another what.");
        FarHeaps x = Scenes.allKinds();
        for (int what : Edges.beside(0, 1)) {
            for (int a = 0; a < 6; a++) {
                edges.is("register(0, " + a + ", " + what + ")", x.register(0, a, what), -1);
            }
        }
    }
}
