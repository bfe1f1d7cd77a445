/** Promises 5 and 6. */
final class NumberAndDropEdges {

    private final Edges edges;

    NumberAndDropEdges(Edges edges) {
        this.edges = edges;
    }

    void run() {
        edges.test(this::leastAndMostInts);
        edges.test(this::intsThatAreLikeNothing);
        edges.test(this::numberWithoutNode);
        edges.test(this::numberWithoutRegister);
        edges.test(this::dropOfEachKind);
        edges.test(this::dropOfNothing);
        edges.test(this::dropWithoutNode);
        edges.test(this::dropWithoutRegister);
    }

    private void leastAndMostInts() {
        edges.of(5, "REGISTER a holds an INT: true", "the least and the most");
        FarHeaps x = new FarHeaps(5);
        edges.yes("number(0, 0, least)", x.number(0, 0, Scenes.LEAST));
        edges.yes("number(4, 5, most)", x.number(4, 5, Scenes.MOST));
        edges.is("register(0, 0, 0)", x.register(0, 0, 0), 1);
        edges.is("register(0, 0, 1)", x.register(0, 0, 1), Scenes.LEAST);
        edges.is("register(4, 5, 0)", x.register(4, 5, 0), 1);
        edges.is("register(4, 5, 1)", x.register(4, 5, 1), Scenes.MOST);
    }

    private void intsThatAreLikeNothing() {
        edges.of(5, "REGISTER a holds an INT: true", "0 and NONE");
        FarHeaps x = new FarHeaps(1);
        edges.yes("number(0, 0, 0)", x.number(0, 0, 0));
        edges.is("0 is an INT", x.register(0, 0, 0), 1);
        edges.is("it is 0", x.register(0, 0, 1), 0);
        edges.yes("number(0, 1, -1)", x.number(0, 1, -1));
        edges.is("-1 is an INT", x.register(0, 1, 0), 1);
        edges.is("it is -1", x.register(0, 1, 1), -1);
    }

    private void numberWithoutNode() {
        edges.of(5, "false: no such one.", "NODE");
        for (int n : Edges.beside(0, 1)) {
            edges.leavesFalse("number(" + n + ", 0, 3)", Scenes::allKinds, x -> x.number(n, 0, 3));
        }
    }

    private void numberWithoutRegister() {
        edges.of(5, "false: no such one.", "REGISTER");
        for (int a : Edges.beside(0, 5)) {
            edges.leavesFalse("number(0, " + a + ", 3)", Scenes::allKinds, x -> x.number(0, a, 3));
        }
    }

    private void dropOfEachKind() {
        edges.of(6, "REGISTER a holds nothing: true", "each kind that it held");
        FarHeaps x = Scenes.allKinds();
        for (int a = 0; a < 6; a++) {
            edges.yes("drop(0, " + a + ")", x.drop(0, a));
            edges.is("register(0, " + a + ", 0)", x.register(0, a, 0), 0);
            edges.is("register(0, " + a + ", 1)", x.register(0, a, 1), 0);
        }
        edges.is("the FAR one's IMPORT stays", x.weight(0, 1, 0), 64);
        edges.is("the OBJECTS stay", x.count(0, 0), 2);
    }

    private void dropOfNothing() {
        edges.of(6, "REGISTER a holds nothing: true", "it held nothing");
        edges.leaves("drop(0, 4)", 1, Scenes::allKinds, x -> x.drop(0, 4) ? 1 : 0);
    }

    private void dropWithoutNode() {
        edges.of(6, "false: no such one.", "NODE");
        for (int n : Edges.beside(0, 1)) {
            edges.leavesFalse("drop(" + n + ", 0)", Scenes::allKinds, x -> x.drop(n, 0));
        }
    }

    private void dropWithoutRegister() {
        edges.of(6, "false: no such one.", "REGISTER");
        for (int a : Edges.beside(0, 5)) {
            edges.leavesFalse("drop(0, " + a + ")", Scenes::allKinds, x -> x.drop(0, a));
        }
    }
}
