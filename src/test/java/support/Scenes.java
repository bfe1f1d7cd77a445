/** Runs of calls that several tests begin with. */
final class Scenes {

    static final int LEAST = Integer.MIN_VALUE;
    static final int MOST = Integer.MAX_VALUE;

    private Scenes() {
    }

    /** Sends what the REGISTER holds and lets all that is UNDER WAY come. */
    static void bring(FarHeaps x, int n, int a, int m, int b) {
        x.send(n, a, m, b);
        x.drain(1000);
    }

    /** Node 0's object 0 and node 1's object 0 (1 FIELD each) hold one another; REGISTERS 0 and 1 hold both in each. */
    static FarHeaps heldRingOfTwo(int nodes) {
        FarHeaps x = new FarHeaps(nodes);
        x.make(0, 0, 1);
        x.make(1, 0, 1);
        bring(x, 0, 0, 1, 1);
        bring(x, 1, 0, 0, 1);
        x.set(0, 0, 0, 1);
        x.set(1, 0, 0, 1);
        return x;
    }

    /** As heldRingOfTwo, but no REGISTER holds anything. */
    static FarHeaps ringOfTwo(int nodes) {
        FarHeaps x = heldRingOfTwo(nodes);
        dropAll(x, 0);
        dropAll(x, 1);
        return x;
    }

    static void dropAll(FarHeaps x, int n) {
        for (int a = 0; a < 6; a++) {
            x.drop(n, a);
        }
    }

    /** Makes OBJECTS without FIELDS in node n and brings each to REGISTER 5 of node m. */
    static void giveImports(FarHeaps x, int n, int m, int howMany) {
        for (int i = 0; i < howMany; i++) {
            x.make(n, 5, 0);
            bring(x, n, 5, m, 5);
        }
        x.drop(n, 5);
    }

    /** As giveImports, but FIELDS of the OBJECT in REGISTER a of node m hold them, from FIELD f on. */
    static void giveHeldImports(FarHeaps x, int n, int m, int a, int f, int howMany) {
        for (int i = 0; i < howMany; i++) {
            x.make(n, 5, 0);
            bring(x, n, 5, m, 5);
            x.set(m, a, f + i, 5);
        }
        x.drop(n, 5);
        x.drop(m, 5);
    }
}
