/** Promise 13. */
final class SettleEdges {

    private static final String AT_ONCE = "-2: a COLLECTING was not done (at once)";
    private static final String STAYS = "or a MESSAGE stays UNDER WAY behind all that (what was done stays).";

    private final Edges edges;

    SettleEdges(Edges edges) {
        this.edges = edges;
    }

    void run() {
        edges.test(this::nothingToDo);
        edges.test(this::messagesComeFirst);
        edges.test(this::againstTheOrderOfNodes);
        edges.test(this::aTurnThatOnlySends);
        edges.test(this::aTurnInWhichOneOnlyComes);
        edges.test(this::inAll);
        edges.test(this::decsThatAreJustNotTooMany);
        edges.test(this::decsThatAreTooMany);
        edges.test(this::aCollectingThatIsNotDone);
        edges.test(this::aRefThatStays);
        edges.test(this::aRefThatStaysAtFirst);
    }

    private void nothingToDo() {
        edges.of(13, "Again and again:", "nothing to do");
        edges.leaves("settle() of a new one", 0, () -> new FarHeaps(5), FarHeaps::settle);
        edges.leaves("settle() of what is held", 0, Scenes::allKinds, FarHeaps::settle);
        edges.leaves("settle() of a ring", 0, () -> Scenes.ringOfTwo(3), FarHeaps::settle);
    }

    private void messagesComeFirst() {
        edges.of(13, "MESSAGES come as by drain(1000)", "60 are UNDER WAY");
        FarHeaps x = Scenes.underWay(60);
        Scenes.dropAll(x, 0);
        edges.is("settle()", x.settle(), 0);
        edges.is("UNDER WAY", x.count(-1, 4), 0);
        edges.is("their WEIGHT in NODE 1", x.weight(1, 0, 0), 31 * 64);
        edges.is("their WEIGHT in NODE 2", x.weight(2, 0, 0), 30 * 64);
    }

    /** An OBJECT of each NODE is held by the one of the NODE ahead, so that one goes in each turn. */
    private static FarHeaps chain(int nodes, boolean isUp) {
        FarHeaps x = new FarHeaps(nodes);
        for (int n = 0; n < nodes; n++) {
            x.make(n, 0, 1);
        }
        for (int i = 1; i < nodes; i++) {
            int holder = isUp ? i - 1 : i;
            int held = isUp ? i : i - 1;
            Scenes.bring(x, held, 0, holder, 1);
            x.set(holder, 0, 0, 1);
        }
        for (int n = 0; n < nodes; n++) {
            Scenes.dropAll(x, n);
        }
        return x;
    }

    private void againstTheOrderOfNodes() {
        edges.of(13, "all NODES are COLLECTED in order", "chains up and down all NODES");
        edges.is("a chain up", chain(5, true).settle(), 5);
        edges.is("a chain down", chain(5, false).settle(), 5);
        edges.is("a chain of one NODE", chain(1, true).settle(), 1);
    }

    private void aTurnThatOnlySends() {
        edges.of(13, "till a turn in which no MESSAGE came, none was sent, and no OBJECT went", "one was only sent");
        FarHeaps x = new FarHeaps(2);
        x.make(1, 0, 0);
        Scenes.bring(x, 1, 0, 0, 0);
        x.drop(1, 0);
        x.drop(0, 0);
        edges.is("settle()", x.settle(), 1);
        edges.is("UNDER WAY", x.count(-1, 4), 0);
    }

    private void aTurnInWhichOneOnlyComes() {
        edges.of(13, "till a turn in which no MESSAGE came, none was sent, and no OBJECT went", "one only came");
        FarHeaps x = new FarHeaps(2);
        x.make(1, 0, 0);
        x.send(1, 0, 0, 0);
        edges.is("settle()", x.settle(), 0);
        edges.is("it came", x.register(0, 0, 0), 3);
    }

    private void inAll() {
        edges.of(13, "how many OBJECTS went in all.", "in several turns and NODES");
        FarHeaps x = chain(3, true);
        for (int k = 1; k < 24; k++) {
            x.make(2, 0, 0);
        }
        x.drop(2, 0);
        x.make(1, 0, 0);
        edges.is("settle()", x.settle(), 26);
        edges.is("one is left", x.count(-1, 0), 1);
    }

    private void decsThatAreJustNotTooMany() {
        edges.of(13, AT_ONCE, "60 DECS");
        FarHeaps x = Scenes.threeToGiveBack(30, 20, 10);
        edges.is("IMPORTS", x.count(-1, 2), 60);
        edges.is("settle()", x.settle(), 30);
        edges.is("IMPORTS", x.count(-1, 2), 0);
    }

    private void decsThatAreTooMany() {
        edges.of(13, AT_ONCE, "61 DECS");
        FarHeaps x = Scenes.threeToGiveBack(30, 20, 11);
        edges.is("settle()", x.settle(), -2);
        edges.is("NODE 0 was COLLECTED", x.count(0, 2), 0);
        edges.is("NODE 1 was COLLECTED", x.count(1, 2), 0);
        edges.is("NODE 2 was not", x.count(2, 2), 11);
        edges.is("50 DECS are UNDER WAY", x.count(-1, 4), 50);
        edges.is("settle() again", x.settle(), 30);
        edges.is("IMPORTS", x.count(-1, 2), 0);
    }

    private void aCollectingThatIsNotDone() {
        edges.of(13, AT_ONCE, "NODES behind it");
        FarHeaps x = Scenes.threeToGiveBack(30, 20, 11);
        for (int n = 0; n < 5; n++) {
            x.make(n, 5, 0);
            x.drop(n, 5);
        }
        int[] ahead = new int[5];
        for (int n = 0; n < 5; n++) {
            ahead[n] = x.count(n, 0);
        }
        edges.is("settle()", x.settle(), -2);
        for (int n = 0; n < 5; n++) {
            edges.is("OBJECTS that went of NODE " + n, ahead[n] - x.count(n, 0), n < 2 ? 1 : 0);
        }
    }

    private void aRefThatStays() {
        edges.of(13, STAYS, "a 31st IMPORT");
        FarHeaps x = Scenes.heldImports(30);
        x.make(0, 5, 0);
        x.make(2, 5, 0);
        x.drop(0, 5);
        x.drop(2, 5);
        x.send(0, 1, 1, 4);
        int ahead = x.count(-1, 0);
        edges.is("settle()", x.settle(), -2);
        edges.is("OBJECTS that went", ahead - x.count(-1, 0), 2);
        edges.is("UNDER WAY", x.count(1, 4), 1);
        edges.is("settle() again", x.settle(), -2);
        edges.is("UNDER WAY", x.count(1, 4), 1);
    }

    private void aRefThatStaysAtFirst() {
        edges.of(13, STAYS, "a 31st IMPORT, till one is given back");
        FarHeaps x = Scenes.heldImports(30);
        x.send(0, 1, 1, 4);
        x.drop(1, 5);
        x.set(1, 0, 0, 5);
        edges.is("come", x.come(0, 1), -2);
        edges.is("settle()", x.settle(), 1);
        edges.is("UNDER WAY", x.count(-1, 4), 0);
        edges.is("it came", x.register(1, 4, 1), 20);
    }
}
