/** Promise 4. */
final class GetEdges {

    private static final String HOLDS = "REGISTER b holds what FIELD f of the LOCAL OBJECT holds that REGISTER a holds.";
    private static final String LIKEWISE = "Likewise.";

    private final Edges edges;

    GetEdges(Edges edges) {
        this.edges = edges;
    }

    void run() {
        edges.test(this::firstAndLastField);
        edges.test(this::nothing);
        edges.test(this::intoTheRegisterItself);
        edges.test(this::noSuchNode);
        edges.test(this::noSuchRegisterA);
        edges.test(this::noSuchRegisterB);
        edges.test(this::noSuchField);
        edges.test(this::notSoManyFields);
        edges.test(this::noFieldsAtAll);
        edges.test(this::noLocalOne);
    }

    private void firstAndLastField() {
        edges.of(4, HOLDS, "first and last");
        FarHeaps x = new FarHeaps(1);
        x.make(0, 0, 12);
        x.number(0, 1, Scenes.LEAST);
        x.set(0, 0, 0, 1);
        x.number(0, 1, Scenes.MOST);
        x.set(0, 0, 11, 1);
        edges.yes("get(0, 0, 0, 5)", x.get(0, 0, 0, 5));
        edges.is("REGISTER 5's kind", x.register(0, 5, 0), 1);
        edges.is("REGISTER 5", x.register(0, 5, 1), Scenes.LEAST);
        edges.yes("get(0, 0, 11, 4)", x.get(0, 0, 11, 4));
        edges.is("REGISTER 4", x.register(0, 4, 1), Scenes.MOST);
        edges.is("REGISTER 3", x.register(0, 3, 0), 0);
        edges.is("the FIELD holds it still", x.field(0, 0, 11, 1), Scenes.MOST);
    }

    private void nothing() {
        edges.of(4, HOLDS, "nothing");
        FarHeaps x = new FarHeaps(1);
        x.make(0, 0, 1);
        x.number(0, 1, 9);
        edges.yes("get of nothing", x.get(0, 0, 0, 1));
        edges.is("the REGISTER's kind", x.register(0, 1, 0), 0);
        edges.is("the REGISTER's content", x.register(0, 1, 1), 0);
    }

    private void intoTheRegisterItself() {
        edges.of(4, HOLDS, "b is a");
        FarHeaps x = new FarHeaps(1);
        x.make(0, 0, 1);
        x.make(0, 1, 1);
        x.set(0, 0, 0, 1);
        edges.yes("get(0, 0, 0, 0)", x.get(0, 0, 0, 0));
        edges.is("the REGISTER holds the other one", x.register(0, 0, 1), 1);
        edges.is("the first is held no more", x.object(0, 0, 3), 0);
    }

    private void noSuchNode() {
        edges.of(4, LIKEWISE, "no such NODE");
        for (int n : Edges.beside(0, 1)) {
            edges.leavesFalse("get(" + n + ", 0, 0, 1)", Scenes::allKinds, x -> x.get(n, 0, 0, 1));
        }
    }

    private void noSuchRegisterA() {
        edges.of(4, LIKEWISE, "no such REGISTER a");
        for (int a : Edges.beside(0, 5)) {
            edges.leavesFalse("get(0, " + a + ", 0, 1)", Scenes::allKinds, x -> x.get(0, a, 0, 1));
        }
    }

    private void noSuchRegisterB() {
        edges.of(4, LIKEWISE, "no such REGISTER b");
        for (int b : Edges.beside(0, 5)) {
            edges.leavesFalse("get(0, 0, 0, " + b + ")", Scenes::allKinds, x -> x.get(0, 0, 0, b));
        }
    }

    private void noSuchField() {
        edges.of(4, LIKEWISE, "no such FIELD");
        for (int f : Edges.beside(0, 11)) {
            edges.leavesFalse("get(0, 0, " + f + ", 1)", Scenes::allKinds, x -> x.get(0, 0, f, 1));
        }
    }

    private void notSoManyFields() {
        edges.of(4, LIKEWISE, "the OBJECT has not so many FIELDS");
        edges.yes("get of the last FIELD", Scenes.allKinds().get(0, 0, 1, 1));
        edges.leavesFalse("get of a FIELD behind it", Scenes::allKinds, x -> x.get(0, 0, 2, 1));
        edges.leavesFalse("get of FIELD 11", Scenes::allKinds, x -> x.get(0, 0, 11, 1));
    }

    private void noFieldsAtAll() {
        edges.of(4, LIKEWISE, "the OBJECT has no FIELDS");
        edges.leavesFalse("get of FIELD 0", Scenes::allKinds, x -> x.get(0, 3, 0, 1));
    }

    private void noLocalOne() {
        edges.of(4, LIKEWISE, "a holds nothing, an INT, a FAR OBJECT");
        edges.leavesFalse("get(0, 4, 0, 5)", Scenes::allKinds, x -> x.get(0, 4, 0, 5));
        edges.leavesFalse("get(0, 1, 0, 5)", Scenes::allKinds, x -> x.get(0, 1, 0, 5));
        edges.leavesFalse("get(0, 2, 0, 5)", Scenes::allKinds, x -> x.get(0, 2, 0, 5));
    }
}
