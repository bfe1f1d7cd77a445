/** The third part of the terms: TRIALS. */
final class TrialTermsEdges {

    private static final String GRAY = "GRAY are it, and what FIELDS of GRAY OBJECTS (of all NODES) hold.";
    private static final String OTHER_TOTAL =
        "those whose TOTAL (if they have an EXPORT) is not just the WEIGHTS of INNER IMPORTS of them together.";
    private static final String INNER =
        "An IMPORT of a GRAY OBJECT is INNER, if a FIELD of an OBJECT of its NODE that is GRAY, and not WITHOUT, holds it";
    private static final String BACK =
        "and all INNER IMPORTS are GIVEN BACK, NODE by NODE, in each by NODES, then numbers of the OBJECTS";
    private static final String TOO_MANY = "(were they more than 60, it does not SUCCEED).";

    private final Edges edges;

    TrialTermsEdges(Edges edges) {
        this.edges = edges;
    }

    void run() {
        edges.test(this::anExportAndNothingUnderWay);
        edges.test(this::grayThroughAllNodes);
        edges.test(this::grayWithoutFields);
        edges.test(this::grayByLocalFields);
        edges.test(this::grayAreAll);
        edges.test(this::againAndAgain);
        edges.test(this::againAndAgainThroughAll);
        edges.test(this::aRegisterOfItsNode);
        edges.test(this::aFieldThatIsNoRegister);
        edges.test(this::aFieldOfOneNotGray);
        edges.test(this::aFieldOfTheLastNumber);
        edges.test(this::aFieldOfOneNotGrayThatGoes);
        edges.test(this::onesNotGrayBesideGrayOnes);
        edges.test(this::whatWithoutOnesHold);
        edges.test(this::whatAWithoutOneAmongGrayOnesHolds);
        edges.test(this::totalOne);
        edges.test(this::weightOneElsewhere);
        edges.test(this::weightsOfTwoNodes);
        edges.test(this::noExport);
        edges.test(this::noFieldHoldsTheImport);
        edges.test(this::aWithoutOneHoldsTheImport);
        edges.test(this::aRegisterHoldsTheImport);
        edges.test(this::anotherObjectHoldsTheImport);
        edges.test(this::othersBesideThoseThatHoldTheImport);
        edges.test(this::succeedsWithWithoutOnes);
        edges.test(this::emptiesFields);
        edges.test(this::emptiesFieldsOfAll);
        edges.test(this::leavesFieldsOfWithoutOnes);
        edges.test(this::givesBackInOrder);
        edges.test(this::sixtyInner);
        edges.test(this::sixtyOneInner);
        edges.test(this::sixtyOneInnerWithTheLastNumber);
    }

    private void anExportAndNothingUnderWay() {
        edges.ofTerms("A TRIAL of an OBJECT that has an EXPORT, while nothing is UNDER WAY");
        FarHeaps x = Scenes.ringOfTwo(3);
        x.make(2, 0, 0);
        edges.is("of one without an EXPORT", x.trial(2, 0), -1);
        x.send(2, 0, 0, 0);
        edges.is("while one is UNDER WAY", x.trial(0, 0), -1);
        edges.is("of the one UNDER WAY", x.trial(2, 0), -1);
        x.drain(1);
        edges.is("while none is", x.trial(0, 0), 2);
    }

    private void grayThroughAllNodes() {
        edges.ofTerms(GRAY, "a ring through five NODES, by first and last FIELDS");
        FarHeaps x = new FarHeaps(5);
        for (int n = 0; n < 5; n++) {
            x.make(n, 0, 12);
        }
        for (int n = 0; n < 5; n++) {
            Scenes.bring(x, (n + 1) % 5, 0, n, 1);
            x.set(n, 0, n % 2 * 11, 1);
        }
        for (int n = 0; n < 5; n++) {
            Scenes.dropAll(x, n);
        }
        edges.is("trial(4, 0)", x.trial(4, 0), 5);
    }

    private static FarHeaps importThatNothingHolds() {
        FarHeaps x = new FarHeaps(2);
        x.make(0, 0, 0);
        Scenes.bring(x, 0, 0, 1, 0);
        x.drop(0, 0);
        x.drop(1, 0);
        return x;
    }

    private void grayWithoutFields() {
        edges.ofTerms(GRAY, "it alone, without FIELDS");
        edges.leaves("trial(0, 0)", 0, TrialTermsEdges::importThatNothingHolds, x -> x.trial(0, 0));
    }

    private void grayByLocalFields() {
        edges.ofTerms(GRAY, "LOCAL ones, itself too");
        FarHeaps x = Scenes.rings(1);
        x.make(0, 1, 1);
        x.set(0, 0, 1, 1);
        x.set(0, 1, 0, 0);
        x.make(0, 2, 0);
        Scenes.dropAll(x, 0);
        Scenes.dropAll(x, 1);
        edges.is("trial(0, 0)", x.trial(0, 0), 3);
    }

    private void grayAreAll() {
        edges.ofTerms(GRAY, "24 of each of 5 NODES");
        FarHeaps x = Scenes.longRing(5);
        edges.is("OBJECTS", x.count(-1, 0), 120);
        edges.is("trial(0, 23)", x.trial(0, 23), 120);
    }

    /** A ring through four NODES, of which a FIELD of an OBJECT apart holds one: the next is WITHOUT, then the next. */
    private static FarHeaps ringOfFourHeldBeside() {
        FarHeaps x = new FarHeaps(4);
        for (int n = 0; n < 4; n++) {
            x.make(n, 0, 1);
        }
        for (int n = 0; n < 4; n++) {
            Scenes.bring(x, (n + 3) % 4, 0, n, 1);
            x.set(n, 0, 0, 1);
        }
        Scenes.bring(x, 3, 0, 1, 2);
        for (int n = 0; n < 4; n++) {
            x.drop(n, 0);
            x.drop(n, 1);
        }
        return x;
    }

    private void againAndAgain() {
        edges.ofTerms("WITHOUT are, as far as these words make them so, again and again:");
        for (int n = 0; n < 4; n++) {
            int k = n;
            edges.leaves("trial(" + n + ", 0)", 0, TrialTermsEdges::ringOfFourHeldBeside, x -> x.trial(k, 0));
        }
        FarHeaps x = ringOfFourHeldBeside();
        x.drop(1, 2);
        x.settle();
        edges.is("trial(2, 0)", x.trial(2, 0), 4);
    }

    /** The one that is WITHOUT first is the last one that is found GRAY. */
    private void againAndAgainThroughAll() {
        edges.ofTerms("WITHOUT are, as far as these words make them so, again and again:", "24 of each of 5 NODES");
        FarHeaps x = Scenes.longHeldRing(5);
        Scenes.bring(x, 4, 5, 2, 5);
        for (int n = 0; n < 5; n++) {
            Scenes.dropAll(x, n);
        }
        edges.is("trial(0, 23)", x.trial(0, 23), 0);
        edges.is("a FIELD of it", x.field(0, 23, 0, 0), 2);
        x.settle();
        edges.is("trial(0, 23) behind settle()", x.trial(0, 23), 120);
    }

    /** A ring whose OBJECT of NODE 0 a REGISTER there holds: it came home from NODE 1. */
    private static FarHeaps ringHeldBy(int a) {
        FarHeaps x = Scenes.heldRingOfTwo(2);
        Scenes.bring(x, 1, 1, 0, a);
        for (int b = 0; b < 6; b++) {
            if (b != a) {
                x.drop(0, b);
            }
        }
        Scenes.dropAll(x, 1);
        return x;
    }

    private void aRegisterOfItsNode() {
        edges.ofTerms("GRAY OBJECTS that a REGISTER of their NODE holds", "the first and the last REGISTER");
        edges.leaves("REGISTER 0", 0, () -> ringHeldBy(0), x -> x.trial(0, 0));
        edges.leaves("REGISTER 5", 0, () -> ringHeldBy(5), x -> x.trial(0, 0));
        edges.leaves("REGISTER 5, of the other one", 0, () -> ringHeldBy(5), x -> x.trial(1, 0));
        FarHeaps x = ringHeldBy(5);
        x.number(0, 5, 0);
        edges.is("an INT", x.trial(0, 0), 2);
    }

    private void aFieldThatIsNoRegister() {
        edges.ofTerms("GRAY OBJECTS that a REGISTER of their NODE holds", "FIELD 0 of OBJECT 0 is none");
        FarHeaps x = new FarHeaps(2);
        x.make(0, 0, 2);
        x.make(0, 1, 0);
        x.make(1, 0, 1);
        Scenes.bring(x, 0, 0, 1, 1);
        x.set(1, 0, 0, 1);
        Scenes.bring(x, 1, 0, 0, 2);
        x.set(0, 0, 0, 1);
        x.set(0, 0, 1, 2);
        Scenes.dropAll(x, 0);
        Scenes.dropAll(x, 1);
        edges.is("trial(0, 0)", x.trial(0, 0), 3);
    }

    /** A FIELD of NODE 0's OBJECT 1 holds the ring; REGISTERS 2 of both NODES hold OBJECT 1. */
    private static FarHeaps ringHeldByAField(int f) {
        FarHeaps x = Scenes.heldRingOfTwo(2);
        x.make(0, 2, 12);
        x.set(0, 2, f, 0);
        Scenes.bring(x, 0, 2, 1, 2);
        x.drop(0, 0);
        x.drop(0, 1);
        x.drop(1, 0);
        x.drop(1, 1);
        return x;
    }

    private void aFieldOfOneNotGray() {
        edges.ofTerms("or a FIELD of an OBJECT of it that is not GRAY", "the first and the last FIELD");
        edges.leaves("FIELD 0", 0, () -> ringHeldByAField(0), x -> x.trial(0, 0));
        edges.leaves("FIELD 11", 0, () -> ringHeldByAField(11), x -> x.trial(0, 0));
        edges.leaves("FIELD 11, the other one", 0, () -> ringHeldByAField(11), x -> x.trial(1, 0));
    }

    private void aFieldOfTheLastNumber() {
        edges.ofTerms("or a FIELD of an OBJECT of it that is not GRAY", "of the last number");
        FarHeaps x = Scenes.heldRingOfTwo(2);
        for (int k = 1; k < 24; k++) {
            x.make(0, 5, 1);
        }
        x.set(0, 5, 0, 0);
        Scenes.dropAll(x, 0);
        Scenes.dropAll(x, 1);
        edges.is("trial(0, 0)", x.trial(0, 0), 0);
        x.collect(0);
        edges.is("trial(0, 0) behind collecting", x.trial(0, 0), 2);
    }

    /** OBJECT 1 of NODE 0 (its FIELD 5) and OBJECT 0 of NODE 1 are a ring; OBJECTS 0 and 2 beside it have 12 FIELDS, as it has. */
    private static FarHeaps ringBetweenOthers() {
        FarHeaps x = new FarHeaps(2);
        for (int a = 0; a < 3; a++) {
            x.make(0, a, 12);
        }
        x.make(1, 0, 1);
        Scenes.bring(x, 0, 1, 1, 1);
        x.set(1, 0, 0, 1);
        Scenes.bring(x, 1, 0, 0, 5);
        x.set(0, 1, 5, 5);
        return x;
    }

    private void onesNotGrayBesideGrayOnes() {
        edges.ofTerms("or a FIELD of an OBJECT of it that is not GRAY", "OBJECTS beside GRAY ones hold nothing");
        FarHeaps x = ringBetweenOthers();
        x.make(0, 3, 0);
        x.make(0, 4, 0);
        x.set(0, 1, 0, 3);
        x.set(0, 1, 11, 4);
        x.drop(0, 1);
        x.drop(0, 3);
        x.drop(0, 4);
        x.drop(0, 5);
        Scenes.dropAll(x, 1);
        edges.is("trial(0, 1)", x.trial(0, 1), 4);
    }

    private void othersBesideThoseThatHoldTheImport() {
        edges.ofTerms("and no FIELD of another OBJECT of its NODE.", "OBJECTS beside the one that holds it");
        FarHeaps x = ringBetweenOthers();
        x.make(1, 2, 0);
        x.make(1, 3, 0);
        Scenes.bring(x, 1, 2, 0, 3);
        Scenes.bring(x, 1, 3, 0, 4);
        x.set(0, 1, 0, 3);
        x.set(0, 1, 11, 4);
        x.drop(0, 1);
        x.drop(0, 3);
        x.drop(0, 4);
        x.drop(0, 5);
        Scenes.dropAll(x, 1);
        edges.is("trial(0, 1)", x.trial(0, 1), 4);
        edges.is("DECS", x.count(-1, 4), 4);
    }

    private void aFieldOfOneNotGrayThatGoes() {
        edges.ofTerms("or a FIELD of an OBJECT of it that is not GRAY", "that nothing holds");
        FarHeaps x = ringHeldByAField(0);
        x.drop(1, 2);
        x.drop(0, 2);
        x.collect(1);
        x.drain(1000);
        edges.is("till it is collected", x.trial(0, 0), 0);
        x.collect(0);
        edges.is("then", x.trial(0, 0), 2);
    }

    /** Ring 0 holds ring 1, and REGISTER 0 of NODE 0 holds the one or the other. */
    private static FarHeaps twoRings(int held) {
        FarHeaps x = Scenes.rings(2);
        x.set(0, 0, 1, 1);
        x.drop(0, 1 - held);
        Scenes.dropAll(x, 1);
        return x;
    }

    private void whatWithoutOnesHold() {
        edges.ofTerms("what FIELDS of WITHOUT ones hold");
        edges.leaves("a ring that a held one holds", 0, () -> twoRings(0), x -> x.trial(0, 1));
        edges.leaves("its other one", 0, () -> twoRings(0), x -> x.trial(1, 1));
        edges.leaves("the held one", 0, () -> twoRings(0), x -> x.trial(1, 0));
    }

    private void whatAWithoutOneAmongGrayOnesHolds() {
        edges.ofTerms("what FIELDS of WITHOUT ones hold", "of WITHOUT ones that a ring holds");
        FarHeaps x = Scenes.rings(1);
        x.make(0, 1, 2);
        x.make(0, 2, 1);
        x.make(0, 3, 0);
        x.make(1, 1, 1);
        x.make(1, 2, 0);
        x.set(1, 1, 0, 2);
        Scenes.bring(x, 1, 1, 0, 4);
        x.set(0, 0, 1, 1);
        x.set(0, 1, 0, 2);
        x.set(0, 1, 1, 4);
        x.set(0, 2, 0, 3);
        x.drop(0, 0);
        x.drop(0, 2);
        x.drop(0, 3);
        x.drop(0, 4);
        Scenes.dropAll(x, 1);
        edges.is("trial(1, 0)", x.trial(1, 0), 2);
        edges.is("a FIELD of the WITHOUT one", x.field(0, 1, 0, 1), 2);
        edges.is("a FIELD of a LOCAL one that it holds", x.field(0, 2, 0, 1), 3);
        edges.is("a FIELD of a FAR one that it holds", x.field(1, 1, 0, 1), 102);
        edges.is("its IMPORT", x.weight(0, 1, 1), 64);
        edges.is("settle()", x.settle(), 2);
    }

    private void totalOne() {
        edges.ofTerms(OTHER_TOTAL, "a TOTAL of 1");
        FarHeaps x = Scenes.weightOne();
        for (int n = 0; n < 3; n++) {
            Scenes.dropAll(x, n);
        }
        x.collect(2);
        x.drain(1000);
        edges.is("the TOTAL", x.object(0, 0, 2), 1);
        edges.is("trial(0, 0)", x.trial(0, 0), 0);
    }

    /** The ring's IMPORT of NODE 0's OBJECT in NODE 1 has WEIGHT 63, one in NODE 2, that nothing holds, has 1. */
    private static FarHeaps ringWithAWeightElsewhere() {
        FarHeaps x = new FarHeaps(3);
        x.make(0, 0, 1);
        x.make(1, 1, 1);
        Scenes.bring(x, 0, 0, 2, 0);
        for (int i = 0; i < 6; i++) {
            Scenes.bring(x, 2, 0, 1, 0);
        }
        Scenes.bring(x, 1, 1, 0, 1);
        x.set(0, 0, 0, 1);
        x.set(1, 1, 0, 0);
        for (int n = 0; n < 3; n++) {
            Scenes.dropAll(x, n);
        }
        return x;
    }

    private void weightOneElsewhere() {
        edges.ofTerms(OTHER_TOTAL, "1 more");
        edges.is("the WEIGHT elsewhere", ringWithAWeightElsewhere().weight(2, 0, 0), 1);
        edges.leaves("trial(0, 0)", 0, TrialTermsEdges::ringWithAWeightElsewhere, x -> x.trial(0, 0));
        edges.leaves("trial(1, 0)", 0, TrialTermsEdges::ringWithAWeightElsewhere, x -> x.trial(1, 0));
        FarHeaps x = ringWithAWeightElsewhere();
        x.collect(2);
        x.drain(1000);
        edges.is("the TOTAL", x.object(0, 0, 2), 63);
        edges.is("trial(0, 0), just the WEIGHT", x.trial(0, 0), 2);
    }

    private void weightsOfTwoNodes() {
        edges.ofTerms(OTHER_TOTAL, "the WEIGHTS of two NODES");
        FarHeaps x = new FarHeaps(3);
        x.make(0, 0, 2);
        for (int n = 1; n < 3; n++) {
            x.make(n, 0, 1);
            Scenes.bring(x, n, 0, 0, n);
            x.set(0, 0, n - 1, n);
        }
        Scenes.bring(x, 0, 0, 1, 1);
        Scenes.bring(x, 1, 1, 2, 1);
        for (int n = 1; n < 3; n++) {
            x.set(n, 0, 0, 1);
        }
        for (int n = 0; n < 3; n++) {
            Scenes.dropAll(x, n);
        }
        edges.is("the one", x.weight(1, 0, 0), 32);
        edges.is("the other", x.weight(2, 0, 0), 32);
        edges.is("trial(2, 0)", x.trial(2, 0), 3);
    }

    private void noExport() {
        edges.ofTerms(OTHER_TOTAL, "no EXPORT");
        FarHeaps x = Scenes.rings(1);
        x.make(0, 1, 0);
        x.set(0, 0, 1, 1);
        Scenes.dropAll(x, 0);
        Scenes.dropAll(x, 1);
        edges.is("trial(1, 0)", x.trial(1, 0), 3);
        edges.is("settle()", x.settle(), 3);
    }

    private void noFieldHoldsTheImport() {
        edges.ofTerms(INNER, "no FIELD holds it");
        edges.leaves("trial(0, 0)", 0, TrialTermsEdges::importThatNothingHolds, x -> x.trial(0, 0));
    }

    /** Ring 0 and ring 1 both hold NODE 1's OBJECT 2 by NODE 0's IMPORT; a REGISTER holds ring 1. */
    private static FarHeaps twoRingsHoldOne(boolean isHeld) {
        FarHeaps x = Scenes.rings(2);
        x.make(1, 2, 1);
        Scenes.bring(x, 1, 2, 0, 2);
        x.set(0, 0, 1, 2);
        x.set(0, 1, 1, 2);
        x.set(1, 2, 0, 2);
        x.drop(0, 0);
        x.drop(0, 2);
        if (!isHeld) {
            x.drop(0, 1);
        }
        Scenes.dropAll(x, 1);
        return x;
    }

    private void aWithoutOneHoldsTheImport() {
        edges.ofTerms(INNER, "a WITHOUT one holds it");
        FarHeaps x = Scenes.rings(1);
        x.make(1, 1, 1);
        x.make(0, 1, 1);
        Scenes.bring(x, 1, 1, 0, 2);
        x.set(0, 1, 0, 2);
        Scenes.bring(x, 0, 1, 1, 2);
        x.set(1, 1, 0, 2);
        x.set(0, 0, 1, 1);
        x.drop(0, 0);
        x.drop(0, 2);
        Scenes.dropAll(x, 1);
        edges.is("the ring that a REGISTER holds", x.trial(1, 1), 0);
        edges.is("the ring that holds it", x.trial(1, 0), 2);
        edges.is("the IMPORTS of the WITHOUT one stay", x.weight(0, 1, 1), 64);
        edges.is("of both its OBJECTS", x.weight(1, 0, 1), 64);
        edges.is("DECS", x.count(-1, 4), 2);
    }

    private void aRegisterHoldsTheImport() {
        edges.ofTerms("but no REGISTER", "the first and the last REGISTER");
        FarHeaps x = Scenes.ringOfTwo(2);
        edges.is("none", x.trial(0, 0), 2);
        edges.leaves("REGISTER 0", 0, () -> ringImportIn(0), y -> y.trial(0, 0));
        edges.leaves("REGISTER 5", 0, () -> ringImportIn(5), y -> y.trial(0, 0));
        edges.leaves("REGISTER 5, the other one", 0, () -> ringImportIn(5), y -> y.trial(1, 0));
    }

    /** A REGISTER of NODE 1 holds the ring's IMPORT of NODE 0's OBJECT. */
    private static FarHeaps ringImportIn(int a) {
        FarHeaps x = Scenes.heldRingOfTwo(2);
        x.get(1, 0, 0, a);
        for (int b = 0; b < 6; b++) {
            x.drop(0, b);
            if (b != a) {
                x.drop(1, b);
            }
        }
        return x;
    }

    private void anotherObjectHoldsTheImport() {
        edges.ofTerms("and no FIELD of another OBJECT of its NODE.", "one that is not GRAY");
        FarHeaps x = twoRingsHoldOne(true);
        edges.is("of what both hold", x.trial(1, 2), 0);
        edges.is("of ring 0", x.trial(0, 0), 2);
        edges.is("the IMPORT stays", x.weight(0, 1, 2), 64);
        edges.is("DECS", x.count(-1, 4), 2);
        FarHeaps y = twoRingsHoldOne(false);
        edges.is("of ring 0, ring 1 is not GRAY", y.trial(0, 0), 2);
        edges.is("settle()", y.settle(), 2);
        edges.is("of ring 1, it alone holds the IMPORT", y.trial(0, 1), 3);
    }

    private void succeedsWithWithoutOnes() {
        edges.ofTerms("It SUCCEEDS if the OBJECT is not WITHOUT.");
        FarHeaps x = twoRings(1);
        edges.is("another GRAY one is WITHOUT", x.trial(0, 0), 2);
        FarHeaps y = twoRings(1);
        edges.is("it is WITHOUT", y.trial(0, 1), 0);
    }

    private void emptiesFields() {
        edges.ofTerms("Then all FIELDS of GRAY OBJECTS that are not WITHOUT hold nothing", "the first and the last FIELD, each kind");
        FarHeaps x = new FarHeaps(2);
        x.make(0, 0, 12);
        x.make(1, 0, 1);
        Scenes.bring(x, 0, 0, 1, 1);
        x.set(1, 0, 0, 1);
        Scenes.bring(x, 1, 0, 0, 1);
        x.number(0, 2, 7);
        x.set(0, 0, 0, 1);
        x.set(0, 0, 1, 0);
        x.set(0, 0, 10, 2);
        x.set(0, 0, 11, 1);
        Scenes.dropAll(x, 0);
        Scenes.dropAll(x, 1);
        edges.is("trial(0, 0)", x.trial(0, 0), 2);
        for (int f = 0; f < 12; f++) {
            edges.is("field(0, 0, " + f + ", 0)", x.field(0, 0, f, 0), 0);
            edges.is("field(0, 0, " + f + ", 1)", x.field(0, 0, f, 1), 0);
        }
        edges.is("field(1, 0, 0, 0)", x.field(1, 0, 0, 0), 0);
        edges.is("OBJECTS stay till COLLECTING", x.count(-1, 0), 2);
    }

    private void emptiesFieldsOfAll() {
        edges.ofTerms("Then all FIELDS of GRAY OBJECTS that are not WITHOUT hold nothing", "24 of each of 5 NODES");
        FarHeaps x = Scenes.longRing(5);
        x.trial(0, 23);
        for (int n = 0; n < 5; n++) {
            for (int k = 0; k < 24; k++) {
                edges.is("field(" + n + ", " + k + ", 0, 0)", x.field(n, k, 0, 0), 0);
            }
            edges.is("the DEC from NODE " + n, x.message(n, (n + 1) % 5, 0, 1), 100 * ((n + 1) % 5) + 23);
        }
        edges.is("IMPORTS", x.count(-1, 2), 0);
        edges.is("settle()", x.settle(), 120);
    }

    private void leavesFieldsOfWithoutOnes() {
        edges.ofTerms("Then all FIELDS of GRAY OBJECTS that are not WITHOUT hold nothing", "not those of WITHOUT ones");
        FarHeaps x = twoRings(1);
        edges.is("trial(0, 0)", x.trial(0, 0), 2);
        edges.is("of one that is not WITHOUT", x.field(0, 0, 0, 0), 0);
        edges.is("of its other one", x.field(1, 0, 0, 0), 0);
        edges.is("of the WITHOUT one", x.field(0, 1, 0, 1), 101);
        edges.is("of its other one", x.field(1, 1, 0, 1), 1);
    }

    private void givesBackInOrder() {
        edges.ofTerms(BACK, "held the other way round");
        FarHeaps x = new FarHeaps(3);
        x.make(1, 0, 1);
        x.make(1, 1, 0);
        x.make(2, 0, 0);
        x.make(2, 1, 0);
        x.make(0, 0, 12);
        int[][] held = {{2, 1}, {2, 0}, {1, 1}, {1, 0}};
        for (int f = 0; f < 4; f++) {
            Scenes.bring(x, held[f][0], held[f][1], 0, 1);
            x.set(0, 0, f, 1);
        }
        Scenes.bring(x, 0, 0, 1, 2);
        x.set(1, 0, 0, 2);
        for (int n = 0; n < 3; n++) {
            Scenes.dropAll(x, n);
        }
        edges.is("trial(0, 0)", x.trial(0, 0), 5);
        int[][] due = {{1, 0, 100}, {1, 1, 101}, {2, 0, 200}, {2, 1, 201}};
        for (int[] d : due) {
            edges.is("message(0, " + d[0] + ", " + d[1] + ", 0)", x.message(0, d[0], d[1], 0), 2);
            edges.is("message(0, " + d[0] + ", " + d[1] + ", 1)", x.message(0, d[0], d[1], 1), d[2]);
            edges.is("message(0, " + d[0] + ", " + d[1] + ", 2)", x.message(0, d[0], d[1], 2), 64);
        }
        edges.is("from 1", x.message(1, 0, 0, 1), 0);
        edges.is("DECS", x.count(-1, 4), 5);
        edges.is("IMPORTS", x.count(-1, 2), 0);
    }

    private void sixtyInner() {
        edges.ofTerms(TOO_MANY, "60");
        FarHeaps x = Scenes.wideRing(11, 11, 11, 11, 11);
        edges.is("IMPORTS", x.count(-1, 2), 60);
        edges.is("trial(4, 0)", x.trial(4, 0), 65);
        edges.is("DECS", x.count(-1, 4), 60);
        edges.is("IMPORTS behind it", x.count(-1, 2), 0);
    }

    private void sixtyOneInner() {
        edges.ofTerms(TOO_MANY, "61");
        FarHeaps x = Scenes.wideRing(11, 11, 11, 11, 12);
        edges.is("IMPORTS", x.count(-1, 2), 61);
        edges.is("trial(4, 0)", x.trial(4, 0), 0);
        edges.is("DECS", x.count(-1, 4), 0);
        edges.is("IMPORTS behind it", x.count(-1, 2), 61);
        for (int n = 0; n < 5; n++) {
            edges.is("a FIELD of NODE " + n, x.field(n, 0, 10, 0), 3);
            edges.is("another FIELD of NODE " + n, x.field(n, 0, 11, 0), 2);
        }
        edges.is("trial(0, 0), 61 of which NODE 0 has one more", Scenes.wideRing(12, 11, 11, 11, 11).trial(0, 0), 0);
    }

    private void sixtyOneInnerWithTheLastNumber() {
        edges.ofTerms(TOO_MANY, "60 and 61, one of the last NODE and number");
        edges.is("60", Scenes.wideRing(9, 9, 8, 22, 7).trial(0, 0), 65);
        FarHeaps x = Scenes.wideRing(9, 9, 8, 22, 8);
        edges.is("the last", x.weight(3, 4, 23), 64);
        edges.is("61", x.trial(0, 0), 0);
        edges.is("DECS", x.count(-1, 4), 0);
    }
}
