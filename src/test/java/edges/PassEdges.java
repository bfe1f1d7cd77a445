/** Promise 14. */
final class PassEdges {

    private final Edges edges;

    PassEdges(Edges edges) {
        this.edges = edges;
    }

    void run() {
        edges.test(this::nothingToDo);
        edges.test(this::settlesFirst);
        edges.test(this::trialsOfAll);
        edges.test(this::trialsFromTheFirstOneOn);
        edges.test(this::tillNoneSucceeds);
        edges.test(this::inAll);
        edges.test(this::aRefThatStays);
        edges.test(this::aCollectingThatIsNotDone);
    }

    private void nothingToDo() {
        edges.of(14, "till none SUCCEEDS", "nothing to do");
        edges.leaves("pass() of a new one", 0, () -> new FarHeaps(5), FarHeaps::pass);
        edges.leaves("pass() of what is held", 0, Scenes::allKinds, FarHeaps::pass);
        edges.leaves("pass() of a ring that is held", 0, () -> Scenes.heldRingOfTwo(2), FarHeaps::pass);
    }

    private void settlesFirst() {
        edges.of(14, "settle(), then", "a MESSAGE is UNDER WAY at first");
        FarHeaps x = Scenes.ringOfTwo(2);
        x.make(0, 0, 0);
        x.send(0, 0, 1, 0);
        edges.is("trial is refused", x.trial(0, 0), -1);
        edges.is("pass()", x.pass(), 2);
        edges.is("it came", x.register(1, 0, 1), 1);
    }

    private void trialsOfAll() {
        edges.of(14, "TRIALS of all OBJECTS with an EXPORT, by NODES, then numbers", "the last NODE and number");
        FarHeaps x = new FarHeaps(5);
        for (int k = 0; k < 23; k++) {
            x.make(4, 0, 0);
            x.make(3, 0, 0);
        }
        x.make(4, 0, 1);
        x.make(3, 0, 1);
        Scenes.bring(x, 4, 0, 3, 1);
        Scenes.bring(x, 3, 0, 4, 1);
        x.set(4, 0, 0, 1);
        x.set(3, 0, 0, 1);
        Scenes.dropAll(x, 3);
        Scenes.dropAll(x, 4);
        edges.is("pass()", x.pass(), 48);
    }

    /** Rings 0 and 1 both hold ring 2: it is WITHOUT in the TRIAL of the one while the other is there. */
    private void trialsFromTheFirstOneOn() {
        edges.of(14, "behind each that SUCCEEDS again settle(), and the TRIALS from the first one on", "rings that hold a ring");
        FarHeaps x = Scenes.rings(3);
        x.set(0, 0, 1, 2);
        x.set(0, 1, 1, 2);
        Scenes.dropAll(x, 0);
        Scenes.dropAll(x, 1);
        edges.is("TRIAL of ring 2", x.trial(0, 2), 0);
        edges.is("TRIAL of ring 0", x.trial(0, 0), 2);
        edges.is("pass()", x.pass(), 6);
        edges.is("OBJECTS", x.count(-1, 0), 0);
    }

    private void tillNoneSucceeds() {
        edges.of(14, "till none SUCCEEDS", "three rings, one held");
        FarHeaps x = Scenes.rings(3);
        x.drop(0, 0);
        x.drop(0, 2);
        Scenes.dropAll(x, 1);
        edges.is("pass()", x.pass(), 4);
        edges.is("the held ring", x.object(0, 1, 3), 1);
        edges.is("its other one", x.object(1, 1, 3), 1);
        edges.is("UNDER WAY", x.count(-1, 4), 0);
        edges.is("pass() again", x.pass(), 0);
    }

    private void inAll() {
        edges.of(14, "how many OBJECTS went in all", "by settle() and behind TRIALS");
        FarHeaps x = Scenes.rings(2);
        x.make(0, 5, 0);
        x.make(0, 5, 0);
        Scenes.dropAll(x, 0);
        Scenes.dropAll(x, 1);
        edges.is("pass()", x.pass(), 6);
    }

    private void aRefThatStays() {
        edges.of(14, "-2 as settle().", "a REF stays");
        FarHeaps x = Scenes.heldImports(30);
        x.make(2, 5, 0);
        x.drop(2, 5);
        x.send(0, 1, 1, 4);
        int ahead = x.count(2, 0);
        edges.is("pass()", x.pass(), -2);
        edges.is("what was done stays", x.count(2, 0), ahead - 1);
        edges.is("UNDER WAY", x.count(1, 4), 1);
    }

    private void aCollectingThatIsNotDone() {
        edges.of(14, "-2 as settle().", "a COLLECTING is not done");
        FarHeaps x = Scenes.threeToGiveBack(30, 20, 11);
        edges.is("pass()", x.pass(), -2);
        edges.is("50 DECS are UNDER WAY", x.count(-1, 4), 50);
        edges.is("pass() again", x.pass(), 30);
        FarHeaps y = Scenes.threeToGiveBack(30, 20, 10);
        edges.is("pass() with 60", y.pass(), 30);
        edges.is("IMPORTS", y.count(-1, 2), 0);
    }
}
