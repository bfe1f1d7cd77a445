/** Promises 12 and 14: what holds itself across nodes. */
public final class TrialsTest {

    private static final Due DUE = new Due();

    public static void main(String[] args) {
        ring();
        wrong();
        heldByRegisters();
        heldByOthers();
        heldBehindOthers();
        twoHoldersOfOneImport();
        innerImportOfAHeldOne();
        weightElsewhere();
        uncoveredInTurns();
        order();
        moreThanSixty();
        passes();
        passOfTwoRings();
        DUE.end();
    }

    private static void ring() {
        FarHeaps x = Scenes.ringOfTwo(2);
        x.make(0, 3, 2);
        DUE.is("trial of a ring", x.trial(1, 0), 2);
        DUE.is("its field holds nothing", x.field(0, 0, 0, 0), 0);
        DUE.is("nor the other's", x.field(1, 0, 0, 0), 0);
        DUE.is("imports are given back", x.count(-1, 2), 0);
        DUE.is("dec from 0", x.message(0, 1, 0, 0), 2);
        DUE.is("of its whole weight", x.message(0, 1, 0, 2), 64);
        DUE.is("dec from 1", x.message(1, 0, 0, 1), 0);
        DUE.is("objects are there till collecting", x.count(-1, 0), 3);
        DUE.is("totals till the decs come", x.object(1, 0, 2), 64);
        DUE.yes("isEven()", x.isEven());
        DUE.is("settle", x.settle(), 2);
        FarHeaps y = new FarHeaps(2);
        y.make(0, 0, 3);
        y.make(0, 1, 0);
        y.make(1, 0, 1);
        Scenes.bring(y, 0, 0, 1, 1);
        Scenes.bring(y, 1, 0, 0, 2);
        y.set(1, 0, 0, 1);
        y.set(0, 0, 0, 2);
        y.set(0, 0, 1, 1);
        y.number(0, 3, 12);
        y.set(0, 0, 2, 3);
        Scenes.dropAll(y, 0);
        Scenes.dropAll(y, 1);
        DUE.is("gray without an export counts too", y.trial(0, 0), 3);
        DUE.is("a local field is emptied", y.field(0, 0, 1, 0), 0);
        DUE.is("an int too", y.field(0, 0, 2, 0), 0);
    }

    private static void wrong() {
        FarHeaps x = Scenes.ringOfTwo(2);
        x.make(0, 0, 0);
        int[][] wrong = {{-1, 0}, {2, 0}, {0, -1}, {0, 1}, {0, 2}, {0, 24}, {1, 1}, {Scenes.MOST, 0}, {0, Scenes.MOST},
            {Scenes.LEAST, 0}, {0, Scenes.LEAST}};
        for (int[] w : wrong) {
            DUE.is("trial of wrong " + w[0] + " " + w[1], x.trial(w[0], w[1]), -1);
        }
        x.send(0, 0, 1, 4);
        DUE.is("trial with one under way", x.trial(0, 0), -1);
        DUE.is("changes nothing", x.field(0, 0, 0, 0), 3);
        x.drain(1000);
        DUE.is("trial of a held one", x.trial(0, 1), 0);
        DUE.is("trial of the ring", x.trial(0, 0), 2);
    }

    private static void heldByRegisters() {
        FarHeaps x = Scenes.heldRingOfTwo(2);
        x.drop(0, 0);
        x.drop(1, 0);
        x.drop(1, 1);
        DUE.is("a register of another node holds", x.trial(0, 0), 0);
        DUE.is("and through it", x.trial(1, 0), 0);
        DUE.is("fields are as they were", x.field(0, 0, 0, 1), 100);
        DUE.is("nothing is sent", x.count(-1, 4), 0);
        x.get(1, 0, 0, 0);
        x.drop(0, 1);
        DUE.is("no register holds", x.trial(0, 0), 2);
        FarHeaps y = Scenes.heldRingOfTwo(2);
        y.drop(0, 1);
        y.drop(1, 0);
        y.drop(1, 1);
        DUE.is("a register of its own node holds", y.trial(0, 0), 0);
        DUE.is("and through it the other", y.trial(1, 0), 0);
    }

    private static void heldByOthers() {
        FarHeaps x = Scenes.heldRingOfTwo(2);
        x.make(1, 2, 1);
        x.set(1, 2, 0, 1);
        x.make(0, 2, 1);
        Scenes.dropAll(x, 1);
        Scenes.dropAll(x, 0);
        DUE.is("an import that a field of one not gray holds", x.trial(0, 0), 0);
        x.collect(1);
        DUE.is("till that is collected", x.trial(0, 0), 2);
        FarHeaps y = Scenes.heldRingOfTwo(2);
        y.make(1, 2, 1);
        y.set(1, 2, 0, 0);
        Scenes.dropAll(y, 1);
        Scenes.dropAll(y, 0);
        DUE.is("a field of one not gray in its node", y.trial(0, 0), 0);
        DUE.is("for the other likewise", y.trial(1, 0), 0);
        y.collect(1);
        DUE.is("till it is collected", y.trial(1, 0), 2);
    }

    private static void heldBehindOthers() {
        FarHeaps x = Scenes.ringOfTwo(3);
        x.make(2, 0, 1);
        x.make(2, 1, 0);
        x.set(2, 0, 0, 1);
        Scenes.bring(x, 2, 1, 1, 0);
        x.drop(2, 1);
        x.make(1, 1, 1);
        x.set(1, 1, 0, 0);
        x.drop(1, 0);
        x.drop(1, 1);
        DUE.is("not part of the ring", x.trial(0, 0), 2);
        FarHeaps y = new FarHeaps(3);
        for (int n = 0; n < 3; n++) {
            y.make(n, 0, 1);
        }
        Scenes.bring(y, 1, 0, 0, 1);
        Scenes.bring(y, 2, 0, 1, 1);
        Scenes.bring(y, 0, 0, 2, 1);
        for (int n = 0; n < 3; n++) {
            y.set(n, 0, 0, 1);
            y.drop(n, 1);
        }
        y.drop(0, 0);
        y.drop(1, 0);
        for (int n = 0; n < 3; n++) {
            DUE.is("a ring of three, one held", y.trial(n, 0), 0);
        }
        y.drop(2, 0);
        DUE.is("a ring of three", y.trial(1, 0), 3);
    }

    private static void twoHoldersOfOneImport() {
        FarHeaps x = new FarHeaps(2);
        x.make(0, 0, 2);
        x.make(1, 0, 1);
        x.make(1, 1, 1);
        Scenes.bring(x, 0, 0, 1, 2);
        x.set(1, 0, 0, 2);
        x.set(1, 1, 0, 2);
        Scenes.bring(x, 1, 0, 0, 1);
        Scenes.bring(x, 1, 1, 0, 2);
        x.set(0, 0, 0, 1);
        x.set(0, 0, 1, 2);
        Scenes.dropAll(x, 0);
        Scenes.dropAll(x, 1);
        DUE.is("two gray ones hold one import", x.trial(0, 0), 3);
        DUE.is("it is given back once", x.message(1, 0, 1, 0), -1);
        DUE.is("settle", x.settle(), 3);
    }

    private static void innerImportOfAHeldOne() {
        FarHeaps x = new FarHeaps(3);
        x.make(0, 0, 2);
        x.make(1, 0, 1);
        x.make(2, 0, 1);
        x.make(2, 1, 0);
        x.set(2, 0, 0, 1);
        x.drop(2, 1);
        Scenes.bring(x, 0, 0, 1, 1);
        x.set(1, 0, 0, 1);
        Scenes.bring(x, 1, 0, 0, 1);
        x.set(0, 0, 0, 1);
        Scenes.bring(x, 2, 0, 0, 2);
        x.set(0, 0, 1, 2);
        Scenes.dropAll(x, 0);
        Scenes.dropAll(x, 1);
        DUE.is("a held one that the ring holds is no part of it", x.trial(2, 0), 0);
        DUE.is("the ring", x.trial(0, 0), 2);
        DUE.is("its import of the held one is given back too", x.message(0, 2, 0, 1), 200);
        DUE.is("three decs", x.count(-1, 4), 3);
        DUE.is("fields of the held one stay", x.field(2, 0, 0, 0), 2);
        DUE.is("settle", x.settle(), 2);
        DUE.is("it is no export any more", x.object(2, 0, 2), 0);
        DUE.is("held", x.object(2, 1, 3), 1);
    }

    private static void weightElsewhere() {
        FarHeaps x = Scenes.ringOfTwo(3);
        x.make(0, 0, 1);
        x.make(1, 0, 1);
        Scenes.bring(x, 0, 0, 1, 1);
        Scenes.bring(x, 0, 0, 2, 1);
        Scenes.bring(x, 1, 0, 0, 1);
        x.set(1, 0, 0, 1);
        x.set(0, 0, 0, 1);
        Scenes.dropAll(x, 0);
        Scenes.dropAll(x, 1);
        x.drop(2, 1);
        DUE.is("an import that nothing holds is not inner", x.trial(0, 1), 0);
        x.collect(2);
        DUE.is("under way", x.trial(0, 1), -1);
        x.drain(1000);
        DUE.is("given back", x.trial(0, 1), 2);
    }

    /** 0's import of 1 is inner only till 0's object is found WITHOUT, and so on down the chain. */
    private static void uncoveredInTurns() {
        FarHeaps x = new FarHeaps(4);
        for (int n = 0; n < 4; n++) {
            x.make(n, 0, 2);
        }
        for (int n = 0; n < 4; n++) {
            Scenes.bring(x, (n + 1) % 4, 0, n, 1);
            x.set(n, 0, 0, 1);
        }
        Scenes.bring(x, 0, 0, 2, 2);
        x.make(2, 3, 1);
        x.set(2, 3, 0, 2);
        for (int n = 0; n < 4; n++) {
            Scenes.dropAll(x, n);
        }
        for (int n = 0; n < 4; n++) {
            DUE.is("all of the ring are without", x.trial(n, 0), 0);
        }
        DUE.is("the other one goes", x.settle(), 1);
        DUE.is("then the ring is found", x.trial(3, 0), 4);
    }

    private static void order() {
        FarHeaps x = new FarHeaps(3);
        x.make(1, 0, 0);
        x.make(1, 1, 0);
        x.make(2, 0, 1);
        x.make(0, 0, 4);
        Scenes.bring(x, 2, 0, 0, 1);
        Scenes.bring(x, 1, 1, 0, 2);
        Scenes.bring(x, 1, 0, 0, 3);
        Scenes.bring(x, 0, 0, 2, 1);
        x.set(2, 0, 0, 1);
        for (int f = 0; f < 3; f++) {
            x.set(0, 0, f, f + 1);
        }
        for (int n = 0; n < 3; n++) {
            Scenes.dropAll(x, n);
        }
        DUE.is("trial", x.trial(2, 0), 4);
        DUE.is("first to 1", x.message(0, 1, 0, 1), 100);
        DUE.is("then", x.message(0, 1, 1, 1), 101);
        DUE.is("to 2", x.message(0, 2, 0, 1), 200);
        DUE.is("from 2", x.message(2, 0, 0, 1), 0);
    }

    private static void moreThanSixty() {
        FarHeaps x = Scenes.wideRing(11, 11, 11, 11, 11);
        DUE.is("60 imports", x.count(-1, 2), 60);
        DUE.is("60 inner imports", x.trial(0, 0), 65);
        DUE.is("60 decs", x.count(-1, 4), 60);
        DUE.is("settle", x.settle(), 65);
        FarHeaps y = Scenes.wideRing(12, 11, 11, 11, 11);
        DUE.is("61 imports", y.count(-1, 2), 61);
        DUE.is("none is held", y.count(-1, 3), 66);
        DUE.is("61 inner imports", y.trial(0, 0), 0);
        DUE.is("nothing is sent", y.count(-1, 4), 0);
        DUE.is("fields hold", y.field(0, 0, 10, 0), 3);
        DUE.is("pass finds nothing", y.pass(), 0);
        DUE.is("60 in nodes of unlike many", Scenes.wideRing(12, 12, 12, 12, 7).trial(0, 0), 65);
    }

    private static void passes() {
        DUE.is("pass of nothing", new FarHeaps(3).pass(), 0);
        FarHeaps x = Scenes.ringOfTwo(3);
        x.make(2, 0, 1);
        x.make(2, 1, 0);
        x.drop(2, 1);
        DUE.is("pass takes the ring and what settle finds", x.pass(), 3);
        DUE.is("one is left", x.count(-1, 0), 1);
        DUE.is("pass again", x.pass(), 0);
        FarHeaps y = Scenes.ringOfTwo(2);
        y.make(0, 0, 0);
        y.send(0, 0, 1, 0);
        y.drop(0, 0);
        DUE.is("pass lets messages come first", y.pass(), 2);
        DUE.is("what came is held", y.object(0, 1, 3), 1);
    }

    private static void passOfTwoRings() {
        FarHeaps x = new FarHeaps(3);
        for (int n = 0; n < 2; n++) {
            x.make(n, 0, 1);
            x.make(n, 1, 2);
        }
        for (int k = 0; k < 2; k++) {
            Scenes.bring(x, 0, k, 1, 2);
            x.set(1, k, 0, 2);
            Scenes.bring(x, 1, k, 0, 2);
            x.set(0, k, 0, 2);
        }
        x.make(2, 0, 1);
        Scenes.bring(x, 2, 0, 0, 2);
        x.set(0, 1, 1, 2);
        for (int n = 0; n < 3; n++) {
            Scenes.dropAll(x, n);
        }
        DUE.is("settle", x.settle(), 0);
        DUE.is("pass of two rings and what one of them holds", x.pass(), 5);
        DUE.is("no exports, imports, messages", x.count(-1, 1) + x.count(-1, 2) + x.count(-1, 4), 0);
        DUE.is("tops", x.count(-1, 5), 0);
    }
}
