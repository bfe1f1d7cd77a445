/** Promise 2. */
final class MakeEdges {

    private static final String NO_SUCH = "NONE, and nothing happens: no such NODE, REGISTER, s";
    private static final String NO_ROOM = "-2: there is no room for it behind TOP.";

    private final Edges edges;

    MakeEdges(Edges edges) {
        this.edges = edges;
    }

    void run() {
        edges.test(this::fewestAndMostFields);
        edges.test(this::holdingNothing);
        edges.test(this::heldByARegister);
        edges.test(this::noSuchNode);
        edges.test(this::noSuchRegister);
        edges.test(this::noSuchNumberOfFields);
        edges.test(this::twentyFourAreThere);
        edges.test(this::twentyFourOfAnotherNode);
        edges.test(this::roomThatIsJustEnough);
        edges.test(this::roomThatIsOneTooSmall);
        edges.test(this::noRoomAtAll);
        edges.test(this::roomOfWhatIsNotHeld);
    }

    /** NODE 0 with two OBJECTS, and something in REGISTERS 0, 1 and 5. */
    private static FarHeaps someObjects() {
        FarHeaps x = new FarHeaps(3);
        x.make(0, 0, 2);
        x.make(0, 1, 0);
        x.number(0, 5, 7);
        return x;
    }

    private void fewestAndMostFields() {
        edges.of(2, "A new OBJECT of a NODE with s FIELDS");
        FarHeaps x = new FarHeaps(1);
        edges.is("make of 0 FIELDS", x.make(0, 0, 0), 0);
        edges.is("its FIELDS", x.object(0, 0, 1), 0);
        edges.is("it has no FIELD 0", x.field(0, 0, 0, 0), -1);
        edges.is("make of 12 FIELDS", x.make(0, 1, 12), 1);
        edges.is("its FIELDS", x.object(0, 1, 1), 12);
        edges.is("it has FIELD 11", x.field(0, 1, 11, 0), 0);
        edges.is("it has no FIELD 12", x.field(0, 1, 12, 0), -1);
    }

    private void holdingNothing() {
        edges.of(2, "holding nothing", "a number whose OBJECT held something");
        FarHeaps x = new FarHeaps(1);
        x.make(0, 0, 12);
        x.number(0, 1, 5);
        for (int f = 0; f < 12; f++) {
            x.set(0, 0, f, f % 2);
        }
        x.drop(0, 0);
        x.collect(0);
        edges.is("make", x.make(0, 0, 12), 0);
        for (int f = 0; f < 12; f++) {
            edges.is("field(0, 0, " + f + ", 0)", x.field(0, 0, f, 0), 0);
            edges.is("field(0, 0, " + f + ", 1)", x.field(0, 0, f, 1), 0);
        }
    }

    private void heldByARegister() {
        edges.of(2, "is held by a REGISTER: its number.", "the first and the last REGISTER, NODE, number");
        FarHeaps x = new FarHeaps(5);
        edges.is("make(0, 0, 0)", x.make(0, 0, 0), 0);
        edges.is("register(0, 0, 0)", x.register(0, 0, 0), 2);
        edges.is("register(0, 0, 1)", x.register(0, 0, 1), 0);
        for (int k = 0; k < 23; k++) {
            x.make(4, 4, 0);
        }
        edges.is("make(4, 5, 0)", x.make(4, 5, 0), 23);
        edges.is("register(4, 5, 0)", x.register(4, 5, 0), 2);
        edges.is("register(4, 5, 1)", x.register(4, 5, 1), 423);
        edges.is("register(4, 4, 1)", x.register(4, 4, 1), 422);
        edges.is("what was in the REGISTER is held no more", x.object(4, 21, 3), 0);
        edges.is("no other REGISTER holds one", x.register(4, 3, 0), 0);
    }

    private void noSuchNode() {
        edges.of(2, NO_SUCH, "NODE");
        for (int n : Edges.beside(0, 2)) {
            edges.leaves("make(" + n + ", 0, 0)", -1, MakeEdges::someObjects, x -> x.make(n, 0, 0));
        }
    }

    private void noSuchRegister() {
        edges.of(2, NO_SUCH, "REGISTER");
        for (int a : Edges.beside(0, 5)) {
            edges.leaves("make(0, " + a + ", 0)", -1, MakeEdges::someObjects, x -> x.make(0, a, 0));
        }
    }

    private void noSuchNumberOfFields() {
        edges.of(2, NO_SUCH, "s");
        for (int s : Edges.beside(0, 12)) {
            edges.leaves("make(0, 0, " + s + ")", -1, MakeEdges::someObjects, x -> x.make(0, 0, s));
        }
    }

    private static FarHeaps twentyFour() {
        FarHeaps x = new FarHeaps(2);
        for (int k = 0; k < 24; k++) {
            x.make(0, k % 5, 0);
        }
        return x;
    }

    private void twentyFourAreThere() {
        edges.of(2, "24 are there", "a 25th");
        edges.is("the 24 take 24 CELLS", twentyFour().count(0, 5), 24);
        edges.leaves("make of a 25th", -1, MakeEdges::twentyFour, x -> x.make(0, 5, 0));
        edges.leaves("make of a 25th into a REGISTER in use", -1, MakeEdges::twentyFour, x -> x.make(0, 0, 3));
        FarHeaps x = twentyFour();
        x.collect(0);
        edges.is("make behind collecting", x.make(0, 5, 0), 0);
    }

    private void twentyFourOfAnotherNode() {
        edges.of(2, "24 are there", "in another NODE");
        edges.is("make(1, 0, 0)", twentyFour().make(1, 0, 0), 0);
    }

    /** Twelve OBJECTS of 13 CELLS each, so that 4 CELLS are left. */
    private static FarHeaps fourCellsLeft() {
        FarHeaps x = new FarHeaps(1);
        for (int k = 0; k < 12; k++) {
            x.make(0, k % 5, 12);
        }
        return x;
    }

    private void roomThatIsJustEnough() {
        edges.of(2, NO_ROOM, "just enough room");
        FarHeaps x = fourCellsLeft();
        edges.is("make of 4 CELLS", x.make(0, 5, 3), 12);
        edges.is("TOP", x.count(0, 5), 160);
        edges.is("its ADDRESS", x.object(0, 12, 0), 156);
    }

    private void roomThatIsOneTooSmall() {
        edges.of(2, NO_ROOM, "a CELL too few");
        edges.leaves("make of 5 CELLS", -2, MakeEdges::fourCellsLeft, x -> x.make(0, 5, 4));
        edges.leaves("make of 13 CELLS", -2, MakeEdges::fourCellsLeft, x -> x.make(0, 0, 12));
    }

    private static FarHeaps full() {
        FarHeaps x = fourCellsLeft();
        x.make(0, 5, 3);
        return x;
    }

    private void noRoomAtAll() {
        edges.of(2, NO_ROOM, "a full HEAP");
        edges.leaves("make of 1 CELL", -2, MakeEdges::full, x -> x.make(0, 5, 0));
    }

    private void roomOfWhatIsNotHeld() {
        edges.of(2, NO_ROOM, "CELLS of OBJECTS that are not held");
        FarHeaps x = full();
        for (int a = 0; a < 6; a++) {
            x.drop(0, a);
        }
        edges.is("make ahead of collecting", x.make(0, 0, 0), -2);
        x.collect(0);
        edges.is("make behind collecting", x.make(0, 0, 0), 0);
    }
}
