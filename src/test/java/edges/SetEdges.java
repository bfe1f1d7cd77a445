/** Promise 3. */
final class SetEdges {

    private static final String NO_SUCH = "False, and nothing happens: no such ones";
    private static final String NOT_SO_MANY = "(the OBJECT has not so many FIELDS, too)";
    private static final String NO_LOCAL = "or a holds no LOCAL OBJECT.";

    private final Edges edges;

    SetEdges(Edges edges) {
        this.edges = edges;
    }

    void run() {
        edges.test(this::firstAndLastField);
        edges.test(this::nothing);
        edges.test(this::itself);
        edges.test(this::noSuchNode);
        edges.test(this::noSuchRegisterA);
        edges.test(this::noSuchRegisterB);
        edges.test(this::noSuchField);
        edges.test(this::notSoManyFields);
        edges.test(this::noFieldsAtAll);
        edges.test(this::aHoldsNothing);
        edges.test(this::aHoldsAnInt);
        edges.test(this::aHoldsAFarOne);
    }

    private void firstAndLastField() {
        edges.of(3, "FIELD f of the LOCAL OBJECT that REGISTER a holds, holds what REGISTER b holds: true.", "first and last");
        FarHeaps x = new FarHeaps(1);
        x.make(0, 0, 12);
        x.make(0, 5, 12);
        edges.yes("set(0, 0, 0, 5)", x.set(0, 0, 0, 5));
        edges.yes("set(0, 5, 11, 0)", x.set(0, 5, 11, 0));
        edges.is("FIELD 0 of OBJECT 0", x.field(0, 0, 0, 1), 1);
        edges.is("FIELD 11 of OBJECT 1 holds a LOCAL one", x.field(0, 1, 11, 0), 2);
        edges.is("FIELD 11 of OBJECT 1", x.field(0, 1, 11, 1), 0);
        edges.is("FIELD 1 of OBJECT 0", x.field(0, 0, 1, 0), 0);
        edges.is("FIELD 10 of OBJECT 1", x.field(0, 1, 10, 0), 0);
    }

    private void nothing() {
        edges.of(3, "holds what REGISTER b holds", "nothing");
        FarHeaps x = new FarHeaps(1);
        x.make(0, 0, 1);
        x.number(0, 1, 9);
        x.set(0, 0, 0, 1);
        edges.yes("set of nothing", x.set(0, 0, 0, 2));
        edges.is("the FIELD's kind", x.field(0, 0, 0, 0), 0);
        edges.is("the FIELD's content", x.field(0, 0, 0, 1), 0);
    }

    private void itself() {
        edges.of(3, "holds what REGISTER b holds", "b is a");
        FarHeaps x = new FarHeaps(2);
        x.make(1, 3, 1);
        edges.yes("set(1, 3, 0, 3)", x.set(1, 3, 0, 3));
        edges.is("the FIELD's kind", x.field(1, 0, 0, 0), 2);
        edges.is("the FIELD's content", x.field(1, 0, 0, 1), 100);
        edges.is("the REGISTER holds it still", x.register(1, 3, 1), 100);
    }

    private void noSuchNode() {
        edges.of(3, NO_SUCH, "NODE");
        for (int n : Edges.beside(0, 1)) {
            edges.leavesFalse("set(" + n + ", 0, 0, 1)", Scenes::allKinds, x -> x.set(n, 0, 0, 1));
        }
    }

    private void noSuchRegisterA() {
        edges.of(3, NO_SUCH, "REGISTER a");
        for (int a : Edges.beside(0, 5)) {
            edges.leavesFalse("set(0, " + a + ", 0, 1)", Scenes::allKinds, x -> x.set(0, a, 0, 1));
        }
    }

    private void noSuchRegisterB() {
        edges.of(3, NO_SUCH, "REGISTER b");
        for (int b : Edges.beside(0, 5)) {
            edges.leavesFalse("set(0, 0, 0, " + b + ")", Scenes::allKinds, x -> x.set(0, 0, 0, b));
        }
    }

    private void noSuchField() {
        edges.of(3, NO_SUCH, "FIELD");
        for (int f : Edges.beside(0, 11)) {
            edges.leavesFalse("set(0, 0, " + f + ", 1)", Scenes::allKinds, x -> x.set(0, 0, f, 1));
        }
    }

    private void notSoManyFields() {
        edges.of(3, NOT_SO_MANY, "one too many");
        edges.yes("set of the last FIELD", Scenes.allKinds().set(0, 0, 1, 1));
        edges.leavesFalse("set of a FIELD behind it", Scenes::allKinds, x -> x.set(0, 0, 2, 1));
        edges.leavesFalse("set of FIELD 11", Scenes::allKinds, x -> x.set(0, 0, 11, 1));
    }

    private void noFieldsAtAll() {
        edges.of(3, NOT_SO_MANY, "none");
        edges.leavesFalse("set of FIELD 0", Scenes::allKinds, x -> x.set(0, 3, 0, 1));
    }

    private void aHoldsNothing() {
        edges.of(3, NO_LOCAL, "nothing");
        edges.leavesFalse("set(0, 4, 0, 1)", Scenes::allKinds, x -> x.set(0, 4, 0, 1));
    }

    private void aHoldsAnInt() {
        edges.of(3, NO_LOCAL, "an INT that is an OBJECT's number");
        edges.leavesFalse("set(0, 1, 0, 3)", Scenes::allKinds, x -> x.set(0, 1, 0, 3));
    }

    private void aHoldsAFarOne() {
        edges.of(3, NO_LOCAL, "a FAR OBJECT");
        edges.leavesFalse("set(0, 2, 0, 1)", Scenes::allKinds, x -> x.set(0, 2, 0, 1));
    }
}
