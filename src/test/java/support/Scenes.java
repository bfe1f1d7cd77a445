/** Runs of calls that several tests begin with. */
final class Scenes {

    static final int LEAST = Integer.MIN_VALUE;
    static final int MOST = Integer.MAX_VALUE;

    private Scenes() {
    }

    /**
     * NODE 0: REGISTER 0 holds OBJECT 0 with 2 FIELDS (an INT, the FAR one), 1 the INT 0, 2 the FAR
     * OBJECT 0 of NODE 1, 3 OBJECT 1 without FIELDS, 4 and 5 nothing. NODE 1's REGISTER 0 holds its OBJECT 0.
     */
    static FarHeaps allKinds() {
        FarHeaps x = new FarHeaps(2);
        x.make(0, 0, 2);
        x.make(1, 0, 1);
        bring(x, 1, 0, 0, 2);
        x.number(0, 1, 8);
        x.set(0, 0, 0, 1);
        x.set(0, 0, 1, 2);
        x.number(0, 1, 0);
        x.make(0, 3, 0);
        return x;
    }

    /** Sends what the REGISTER holds and lets all that is UNDER WAY come. */
    static void bring(FarHeaps x, int n, int a, int m, int b) {
        x.send(n, a, m, b);
        x.drain(1000);
    }

    /** Node 0's object 0 and node 1's object 0 (1 FIELD each) hold one another; REGISTERS 0 and 1 hold both in each. */
    static FarHeaps heldRingOfTwo(int nodes) {
        FarHeaps x = new FarHeaps(nodes);
        x.make(0, 0, 1);
        x.make(1, 0, 1);
        bring(x, 0, 0, 1, 1);
        bring(x, 1, 0, 0, 1);
        x.set(0, 0, 0, 1);
        x.set(1, 0, 0, 1);
        return x;
    }

    /** As heldRingOfTwo, but no REGISTER holds anything. */
    static FarHeaps ringOfTwo(int nodes) {
        FarHeaps x = heldRingOfTwo(nodes);
        dropAll(x, 0);
        dropAll(x, 1);
        return x;
    }

    static void dropAll(FarHeaps x, int n) {
        for (int a = 0; a < 6; a++) {
            x.drop(n, a);
        }
    }

    /** Makes OBJECTS without FIELDS in node n and brings each to REGISTER 5 of node m. */
    static void giveImports(FarHeaps x, int n, int m, int howMany) {
        for (int i = 0; i < howMany; i++) {
            x.make(n, 5, 0);
            bring(x, n, 5, m, 5);
        }
        x.drop(n, 5);
    }

    /** As giveImports, but FIELDS of the OBJECT in REGISTER a of node m hold them, from FIELD f on. */
    static void giveHeldImports(FarHeaps x, int n, int m, int a, int f, int howMany) {
        for (int i = 0; i < howMany; i++) {
            x.make(n, 5, 0);
            bring(x, n, 5, m, 5);
            x.set(m, a, f + i, 5);
        }
        x.drop(n, 5);
        x.drop(m, 5);
    }

    /** NODE 0's OBJECT 0 in REGISTER 0 of all three NODES: NODE 1 has WEIGHT 1 of it, so it is DRY there, NODE 2 has 63. */
    static FarHeaps weightOne() {
        FarHeaps x = new FarHeaps(3);
        x.make(0, 0, 0);
        bring(x, 0, 0, 1, 0);
        for (int i = 0; i < 6; i++) {
            bring(x, 1, 0, 2, 0);
        }
        return x;
    }

    /**
     * REFS UNDER WAY from NODE 0 to NODES 1 and 2, for REGISTER 1, of its OBJECT 0 in REGISTER 0; NODE 1 has
     * WEIGHT 64 of that in REGISTER 0, and an OBJECT of its own without an EXPORT in REGISTER 2.
     */
    static FarHeaps underWay(int howMany) {
        FarHeaps x = new FarHeaps(3);
        x.make(0, 0, 0);
        x.make(1, 2, 0);
        bring(x, 0, 0, 1, 0);
        for (int i = 0; i < howMany; i++) {
            x.send(0, 0, 1 + i % 2, 1);
        }
        return x;
    }

    /**
     * FIELDS of OBJECTS 0 to 2, in REGISTERS 0 to 2 of NODE 1, hold OBJECTS 0 to 19 of NODE 0, the others of NODE 2,
     * from its OBJECT 1 on. REGISTER 0 of NODE 0 holds its OBJECT 19, REGISTER 1 its OBJECT 20, REGISTER 0 of NODE 2
     * its OBJECT 0: of these two there is no EXPORT.
     */
    static FarHeaps heldImports(int howMany) {
        FarHeaps x = new FarHeaps(3);
        for (int a = 0; a < 3; a++) {
            x.make(1, a, 12);
        }
        giveHeldImports(x, 0, 1, 0, 0, 12);
        giveHeldImports(x, 0, 1, 1, 0, 7);
        x.make(0, 0, 0);
        bring(x, 0, 0, 1, 5);
        x.set(1, 1, 7, 5);
        x.drop(1, 5);
        x.make(0, 1, 0);
        x.make(2, 0, 0);
        giveHeldImports(x, 2, 1, 2, 0, howMany - 20);
        return x;
    }

    /**
     * NODE 1 has so many IMPORTS that nothing holds, and in REGISTER 1 its OBJECT 1, that lies behind OBJECT 0, which
     * nothing holds; nor does anything hold NODE 2's OBJECT 0. So many REFS are UNDER WAY from NODE 0 to NODE 2.
     */
    static FarHeaps toGiveBack(int imports, int underWay) {
        FarHeaps x = new FarHeaps(3);
        giveImports(x, 0, 1, imports);
        x.drop(1, 5);
        x.make(1, 0, 0);
        x.make(1, 1, 0);
        x.drop(1, 0);
        x.make(2, 0, 0);
        x.drop(2, 0);
        x.make(0, 0, 0);
        for (int i = 0; i < underWay; i++) {
            x.send(0, 0, 2, 0);
        }
        return x;
    }

    /** NODES 0, 1 and 2 have so many IMPORTS each, of 30 OBJECTS of NODES 3 and 4; no REGISTER holds anything. */
    static FarHeaps threeToGiveBack(int... imports) {
        FarHeaps x = new FarHeaps(5);
        for (int i = 0; i < 30; i++) {
            x.make(3 + i % 2, 0, 0);
            for (int n = 0; n < 3; n++) {
                if (i < imports[n]) {
                    x.send(3 + i % 2, 0, n, 0);
                }
            }
            x.drain(1000);
        }
        for (int n = 0; n < 5; n++) {
            x.drop(n, 0);
        }
        return x;
    }

    /** OBJECT k of NODE 0 (2 FIELDS) and OBJECT k of NODE 1 (1 FIELD) hold one another by FIELDS 0; REGISTERS k hold both. */
    static FarHeaps rings(int howMany) {
        FarHeaps x = new FarHeaps(2);
        for (int k = 0; k < howMany; k++) {
            x.make(0, k, 2);
            x.make(1, k, 1);
            bring(x, 0, k, 1, 5);
            bring(x, 1, k, 0, 5);
            x.set(0, k, 0, 5);
            x.set(1, k, 0, 5);
        }
        x.drop(0, 5);
        x.drop(1, 5);
        return x;
    }

    /**
     * 24 OBJECTS of each NODE in one ring: OBJECT 23 of NODE 0 holds OBJECT 22, and so on to OBJECT 0, which holds
     * OBJECT 23 of the next NODE. In each NODE REGISTER 1 holds OBJECT 23, REGISTER 5 OBJECT 0.
     */
    static FarHeaps longHeldRing(int nodes) {
        FarHeaps x = new FarHeaps(nodes);
        for (int n = 0; n < nodes; n++) {
            x.make(n, 5, 1);
            for (int k = 1; k < 24; k++) {
                x.make(n, k % 2, 1);
                x.set(n, k % 2, 0, k == 1 ? 5 : 1 - k % 2);
            }
        }
        for (int n = 0; n < nodes; n++) {
            bring(x, (n + 1) % nodes, 1, n, 4);
            x.set(n, 5, 0, 4);
        }
        return x;
    }

    /** As longHeldRing, but no REGISTER holds anything. */
    static FarHeaps longRing(int nodes) {
        FarHeaps x = longHeldRing(nodes);
        for (int n = 0; n < nodes; n++) {
            dropAll(x, n);
        }
        return x;
    }

    /** Five NODES in a ring; each holds a hub and small ones of the next, by FIELDS of its own hub and its other. */
    static FarHeaps wideRing(int... smallOnes) {
        FarHeaps x = new FarHeaps(5);
        for (int n = 0; n < 5; n++) {
            x.make(n, 0, 12);
            x.make(n, 1, 12);
            x.set(n, 0, 11, 1);
        }
        for (int n = 0; n < 5; n++) {
            int next = (n + 1) % 5;
            int small = smallOnes[n];
            bring(x, next, 0, n, 5);
            x.set(n, 0, 10, 5);
            giveHeldImports(x, next, n, 0, 0, Math.min(10, small));
            giveHeldImports(x, next, n, 1, 0, Math.max(0, small - 10));
        }
        for (int n = 0; n < 5; n++) {
            x.drop(n, 0);
            x.drop(n, 1);
        }
        return x;
    }
}
