/** The third part of the terms: COLLECTING, and what is HELD. */
final class CollectingTermsEdges {

    private static final String IMPORTS = "IMPORTS that a REGISTER or a FIELD of a MARKED OBJECT holds.";
    private static final String TOGETHER =
        "the others, in the order of their ADDRESSES, come to lie one behind the other from CELL 0 on, and TOP is behind them";
    private static final String GIVEN_BACK =
        "IMPORTS that are not MARKED are GIVEN BACK, by NODES, then numbers: a DEC of the whole WEIGHT goes to the OBJECT's NODE, "
        + "the IMPORT is none any more.";
    private static final String TOO_MANY = "If the DECS (and what is UNDER WAY) would be more than 60, nothing is done.";
    private static final String HELD = "HELD is an OBJECT that a REGISTER of any NODE holds, or a REF UNDER WAY, or a FIELD of a HELD one.";

    private final Edges edges;

    CollectingTermsEdges(Edges edges) {
        this.edges = edges;
    }

    void run() {
        edges.test(this::firstAndLastRegister);
        edges.test(this::theLastNumber);
        edges.test(this::anExport);
        edges.test(this::theLastNumberWithAnExport);
        edges.test(this::firstAndLastField);
        edges.test(this::notWhatThoseBesideHold);
        edges.test(this::aChainOfAll);
        edges.test(this::aFieldOfOneThatIsNotMarked);
        edges.test(this::fieldsOfThoseBeside);
        edges.test(this::importsInRegisters);
        edges.test(this::importsInFields);
        edges.test(this::importsOfTheLastNumber);
        edges.test(this::numbersAreFree);
        edges.test(this::theOrderOfAddresses);
        edges.test(this::nothingIsLeft);
        edges.test(this::inTheOrderOfNumbers);
        edges.test(this::theWholeWeight);
        edges.test(this::justSixty);
        edges.test(this::sixtyOne);
        edges.test(this::sixtyOneWithTheLeastWeight);
        edges.test(this::sixtyOneWithTheLastNumber);
        edges.test(this::thirtyAndThirty);
        edges.test(this::noDecs);
        edges.test(this::heldByRegisters);
        edges.test(this::heldByRefs);
        edges.test(this::heldByFields);
        edges.test(this::notHeldByItself);
        edges.test(this::allAreHeld);
    }

    private void firstAndLastRegister() {
        edges.ofTerms("COLLECTING a NODE: MARKED are the OBJECTS that a REGISTER of it holds", "the first and the last REGISTER");
        FarHeaps x = new FarHeaps(2);
        x.make(0, 0, 0);
        x.make(0, 5, 0);
        x.make(0, 3, 0);
        x.number(0, 3, 2);
        edges.is("collect", x.collect(0), 1);
        edges.is("REGISTER 0's", x.object(0, 0, 0), 0);
        edges.is("REGISTER 5's", x.object(0, 1, 0), 1);
        edges.is("that of an INT is none", x.object(0, 2, 0), -2);
    }

    private void theLastNumber() {
        edges.ofTerms("COLLECTING a NODE: MARKED are the OBJECTS that a REGISTER of it holds", "the last NODE and number");
        FarHeaps x = new FarHeaps(5);
        for (int k = 0; k < 24; k++) {
            x.make(4, 5, 1);
        }
        edges.is("collect", x.collect(4), 23);
        edges.is("OBJECT 23's ADDRESS", x.object(4, 23, 0), 0);
        edges.is("it is HELD", x.object(4, 23, 3), 1);
    }

    private void theLastNumberWithAnExport() {
        edges.ofTerms("those with an EXPORT", "the last NODE and number");
        FarHeaps x = new FarHeaps(5);
        for (int k = 0; k < 24; k++) {
            x.make(4, 5, 1);
        }
        x.send(4, 5, 0, 0);
        x.drop(4, 5);
        edges.is("collect", x.collect(4), 23);
        edges.is("OBJECT 23's TOTAL", x.object(4, 23, 2), 64);
    }

    private void anExport() {
        edges.ofTerms("those with an EXPORT", "nothing holds it");
        FarHeaps x = Scenes.weightOne();
        for (int n = 0; n < 3; n++) {
            Scenes.dropAll(x, n);
        }
        edges.is("not HELD", x.object(0, 0, 3), 0);
        edges.is("collect", x.collect(0), 0);
        edges.is("it stays", x.object(0, 0, 2), 64);
    }

    private void firstAndLastField() {
        edges.ofTerms("and those that a FIELD of a MARKED one holds", "the first and the last FIELD");
        FarHeaps x = new FarHeaps(1);
        x.make(0, 0, 12);
        x.make(0, 1, 0);
        x.make(0, 2, 0);
        x.make(0, 3, 0);
        x.set(0, 0, 0, 1);
        x.set(0, 0, 11, 3);
        for (int a = 1; a < 4; a++) {
            x.drop(0, a);
        }
        edges.is("collect", x.collect(0), 1);
        edges.is("FIELD 0's", x.object(0, 1, 0), 13);
        edges.is("the one in between", x.object(0, 2, 0), -2);
        edges.is("FIELD 11's", x.object(0, 3, 0), 14);
    }

    private void notWhatThoseBesideHold() {
        edges.ofTerms("and those that a FIELD of a MARKED one holds", "not what those beside it hold");
        FarHeaps x = new FarHeaps(1);
        for (int a = 0; a < 3; a++) {
            x.make(0, a, 12);
        }
        x.make(0, 3, 0);
        x.set(0, 0, 11, 3);
        x.set(0, 2, 0, 3);
        x.drop(0, 0);
        x.drop(0, 2);
        x.drop(0, 3);
        edges.is("collect", x.collect(0), 3);
        edges.is("OBJECT 1 stays", x.object(0, 1, 0), 0);
    }

    private void aChainOfAll() {
        edges.ofTerms("and those that a FIELD of a MARKED one holds", "a chain of 24, against their numbers");
        FarHeaps x = Scenes.longRing(2);
        edges.is("all 24 by the last one's EXPORT", x.collect(0), 0);
        edges.is("EXPORTS", x.count(0, 1), 1);
        edges.is("OBJECTS", x.count(0, 0), 24);
    }

    private void aFieldOfOneThatIsNotMarked() {
        edges.ofTerms("OBJECTS that are not MARKED are gone", "they hold one another");
        FarHeaps x = new FarHeaps(1);
        x.make(0, 0, 1);
        x.make(0, 1, 1);
        x.set(0, 0, 0, 1);
        x.set(0, 1, 0, 0);
        edges.is("held", x.collect(0), 0);
        x.drop(0, 0);
        edges.is("held by one", x.collect(0), 0);
        x.drop(0, 1);
        edges.is("held by none", x.collect(0), 2);
    }

    private void fieldsOfThoseBeside() {
        edges.ofTerms("OBJECTS that are not MARKED are gone", "those beside them keep their FIELDS, and REGISTERS");
        FarHeaps x = new FarHeaps(1);
        for (int a = 0; a < 3; a++) {
            x.make(0, a, 12);
        }
        x.number(0, 5, 7);
        x.set(0, 0, 11, 5);
        x.set(0, 2, 0, 5);
        x.drop(0, 1);
        edges.is("collect", x.collect(0), 1);
        edges.is("FIELD 11 of the one ahead", x.field(0, 0, 11, 1), 7);
        edges.is("FIELD 0 of the one behind", x.field(0, 2, 0, 1), 7);
        x.drop(0, 0);
        edges.is("collect again", x.collect(0), 1);
        edges.is("REGISTER 5", x.register(0, 5, 1), 7);
        edges.is("FIELD 0 of the last", x.field(0, 2, 0, 1), 7);
    }

    private void importsInRegisters() {
        edges.ofTerms(IMPORTS, "a REGISTER");
        FarHeaps x = new FarHeaps(2);
        x.make(0, 0, 0);
        x.make(0, 1, 0);
        x.make(0, 2, 0);
        Scenes.bring(x, 0, 0, 1, 0);
        Scenes.bring(x, 0, 1, 1, 5);
        Scenes.bring(x, 0, 2, 1, 3);
        x.drop(1, 3);
        x.collect(1);
        edges.is("REGISTER 0's", x.weight(1, 0, 0), 64);
        edges.is("REGISTER 5's", x.weight(1, 0, 1), 64);
        edges.is("nobody's", x.weight(1, 0, 2), 0);
    }

    private void importsInFields() {
        edges.ofTerms(IMPORTS, "FIELDS");
        FarHeaps x = new FarHeaps(2);
        x.make(1, 0, 12);
        x.make(1, 1, 12);
        for (int k = 0; k < 4; k++) {
            x.make(0, 0, 0);
            Scenes.bring(x, 0, 0, 1, 5);
            x.set(1, k / 2, k % 2 * 11, 5);
        }
        x.drop(1, 5);
        x.drop(1, 1);
        edges.is("collect", x.collect(1), 1);
        edges.is("FIELD 0 of a MARKED one", x.weight(1, 0, 0), 64);
        edges.is("FIELD 11 of a MARKED one", x.weight(1, 0, 1), 64);
        edges.is("FIELD 0 of another", x.weight(1, 0, 2), 0);
        edges.is("FIELD 11 of another", x.weight(1, 0, 3), 0);
    }

    private static FarHeaps importOfTheLastNumber() {
        FarHeaps x = new FarHeaps(5);
        for (int k = 0; k < 24; k++) {
            x.make(4, 0, 0);
        }
        Scenes.bring(x, 4, 0, 0, 5);
        return x;
    }

    private void importsOfTheLastNumber() {
        edges.ofTerms(IMPORTS, "of the last NODE and number");
        FarHeaps x = importOfTheLastNumber();
        x.collect(0);
        edges.is("its WEIGHT", x.weight(0, 4, 23), 64);
        x.drop(0, 5);
        x.collect(0);
        edges.is("behind drop", x.weight(0, 4, 23), 0);
        edges.is("the DEC", x.message(0, 4, 0, 1), 423);
    }

    private void numbersAreFree() {
        edges.ofTerms("(their numbers are free)", "the first and the last");
        FarHeaps x = new FarHeaps(1);
        x.make(0, 0, 0);
        for (int k = 1; k < 24; k++) {
            x.make(0, 1 + k % 4, 0);
        }
        x.drop(0, 0);
        x.drop(0, 4);
        edges.is("collect", x.collect(0), 21);
        edges.is("object(0, 0, 0)", x.object(0, 0, 0), -2);
        edges.is("object(0, 23, 0)", x.object(0, 23, 0), -2);
        edges.is("make", x.make(0, 0, 0), 0);
    }

    private void theOrderOfAddresses() {
        edges.ofTerms(TOGETHER, "numbers that are not in order");
        FarHeaps x = new FarHeaps(1);
        for (int a = 0; a < 3; a++) {
            x.make(0, a, a);
        }
        x.drop(0, 0);
        x.collect(0);
        x.make(0, 0, 4);
        x.drop(0, 1);
        edges.is("collect", x.collect(0), 1);
        edges.is("OBJECT 2's ADDRESS", x.object(0, 2, 0), 0);
        edges.is("OBJECT 0's ADDRESS", x.object(0, 0, 0), 3);
        edges.is("TOP", x.count(0, 5), 8);
        x.make(0, 1, 0);
        x.drop(0, 2);
        x.collect(0);
        edges.is("OBJECT 0's ADDRESS again", x.object(0, 0, 0), 0);
        edges.is("OBJECT 1's ADDRESS", x.object(0, 1, 0), 5);
        edges.is("TOP again", x.count(0, 5), 6);
    }

    private void nothingIsLeft() {
        edges.ofTerms(TOGETHER, "there are no others");
        FarHeaps x = new FarHeaps(1);
        x.make(0, 0, 3);
        x.drop(0, 0);
        x.collect(0);
        edges.is("TOP", x.count(0, 5), 0);
        edges.is("CELL 0", x.cell(0, 0, 0), -1);
        x.make(0, 0, 0);
        edges.is("a new one's ADDRESS", x.object(0, 0, 0), 0);
    }

    private void inTheOrderOfNumbers() {
        edges.ofTerms(GIVEN_BACK, "the first and the last NODE and number");
        FarHeaps x = new FarHeaps(5);
        for (int k = 0; k < 24; k++) {
            x.make(4, k == 0 ? 0 : 1, 0);
            x.make(0, k == 0 ? 0 : 1, 0);
        }
        int[][] sent = {{4, 1}, {0, 1}, {4, 0}, {0, 0}};
        for (int[] s : sent) {
            Scenes.bring(x, s[0], s[1], 2, 0);
        }
        x.drop(2, 0);
        x.collect(2);
        edges.is("to 0 first", x.message(2, 0, 0, 1), 0);
        edges.is("to 0 then", x.message(2, 0, 1, 1), 23);
        edges.is("to 4 first", x.message(2, 4, 0, 1), 400);
        edges.is("to 4 then", x.message(2, 4, 1, 1), 423);
        edges.is("no more", x.count(-1, 4), 4);
    }

    private void theWholeWeight() {
        edges.ofTerms(GIVEN_BACK, "the least and a large WEIGHT");
        FarHeaps x = Scenes.weightOne();
        x.send(0, 0, 2, 0);
        x.drain(1000);
        x.drop(1, 0);
        x.drop(2, 0);
        x.collect(1);
        x.collect(2);
        edges.is("a DEC", x.message(1, 0, 0, 0), 2);
        edges.is("of 1", x.message(1, 0, 0, 2), 1);
        edges.is("of 127", x.message(2, 0, 0, 2), 127);
        edges.is("IMPORTS", x.count(-1, 2), 0);
        edges.is("collect again", x.collect(1), 0);
        edges.is("DECS", x.count(0, 4), 2);
    }

    private void justSixty() {
        edges.ofTerms(TOO_MANY, "just 60");
        FarHeaps x = Scenes.toGiveBack(5, 55);
        edges.is("collect", x.collect(1), 1);
        edges.is("UNDER WAY", x.count(-1, 4), 60);
        edges.is("IMPORTS", x.count(1, 2), 0);
    }

    private void sixtyOne() {
        edges.ofTerms(TOO_MANY, "61");
        edges.leaves("collect", -2, () -> Scenes.toGiveBack(6, 55), x -> x.collect(1));
        edges.leaves("collect of 1 with 60", -2, () -> Scenes.toGiveBack(1, 60), x -> x.collect(1));
    }

    private static FarHeaps sixtyAndTheLeastWeight() {
        FarHeaps x = Scenes.weightOne();
        x.drop(1, 0);
        for (int i = 0; i < 60; i++) {
            x.send(0, 0, 2, 0);
        }
        return x;
    }

    private void sixtyOneWithTheLeastWeight() {
        edges.ofTerms(TOO_MANY, "61, one of WEIGHT 1");
        edges.leaves("collect", -2, CollectingTermsEdges::sixtyAndTheLeastWeight, x -> x.collect(1));
    }

    private static FarHeaps sixtyAndTheLastNumber() {
        FarHeaps x = importOfTheLastNumber();
        x.drop(0, 5);
        for (int i = 0; i < 60; i++) {
            x.send(4, 0, 3, 0);
        }
        return x;
    }

    private void sixtyOneWithTheLastNumber() {
        edges.ofTerms(TOO_MANY, "61, one of the last NODE and number");
        FarHeaps x = sixtyAndTheLastNumber();
        edges.is("collect", x.collect(0), -2);
        edges.is("its WEIGHT", x.weight(0, 4, 23), 64);
        edges.is("UNDER WAY", x.count(-1, 4), 60);
    }

    private static FarHeaps thirtyOfTwo(int others) {
        FarHeaps x = Scenes.heldImports(30);
        Scenes.dropAll(x, 1);
        for (int i = 0; i < others; i++) {
            x.send(0, 1, 2, 1);
        }
        return x;
    }

    private void thirtyAndThirty() {
        edges.ofTerms(TOO_MANY, "30 DECS");
        FarHeaps x = thirtyOfTwo(30);
        edges.is("with 30 UNDER WAY", x.collect(1), 3);
        edges.is("UNDER WAY", x.count(-1, 4), 60);
        FarHeaps y = thirtyOfTwo(31);
        edges.is("with 31 UNDER WAY", y.collect(1), -2);
        edges.is("UNDER WAY", y.count(-1, 4), 31);
        edges.is("OBJECTS", y.count(1, 0), 3);
        edges.is("IMPORTS", y.count(1, 2), 30);
    }

    private void noDecs() {
        edges.ofTerms(TOO_MANY, "no DECS, 60 UNDER WAY");
        FarHeaps x = Scenes.underWay(60);
        x.drop(1, 2);
        edges.is("collect", x.collect(1), 1);
        edges.is("UNDER WAY", x.count(-1, 4), 60);
    }

    private void heldByRegisters() {
        edges.ofTerms(HELD, "the first and the last REGISTER and NODE");
        FarHeaps x = new FarHeaps(5);
        x.make(0, 0, 0);
        x.make(4, 0, 0);
        Scenes.bring(x, 0, 0, 4, 5);
        Scenes.bring(x, 4, 0, 0, 5);
        x.drop(0, 0);
        x.drop(4, 0);
        edges.is("by REGISTER 5 of NODE 4", x.object(0, 0, 3), 1);
        edges.is("by REGISTER 5 of NODE 0", x.object(4, 0, 3), 1);
        x.number(0, 5, 400);
        edges.is("not by an INT", x.object(4, 0, 3), 0);
        x.drop(4, 5);
        edges.is("not by an IMPORT", x.object(0, 0, 3), 0);
    }

    private void heldByRefs() {
        edges.ofTerms(HELD, "a REF, and no other MESSAGE");
        FarHeaps x = new FarHeaps(2);
        x.make(0, 0, 0);
        x.send(0, 0, 1, 0);
        x.drop(0, 0);
        edges.is("a REF", x.object(0, 0, 3), 1);
        x.come(0, 1);
        x.ask(1, 0);
        x.drop(1, 0);
        edges.is("an ASK", x.object(0, 0, 3), 0);
        x.collect(1);
        edges.is("an ASK, a DEC", x.object(0, 0, 3), 0);
        x.come(1, 0);
        edges.is("a DEC, a GRANT", x.object(0, 0, 3), 0);
        edges.is("it is there", x.object(0, 0, 2), 128);
    }

    private void heldByFields() {
        edges.ofTerms(HELD, "FIELDS through all NODES");
        FarHeaps x = new FarHeaps(5);
        for (int n = 0; n < 5; n++) {
            x.make(n, 0, 12);
        }
        for (int n = 0; n < 4; n++) {
            Scenes.bring(x, n + 1, 0, n, 1);
            x.set(n, 0, n % 2 * 11, 1);
            x.drop(n, 1);
        }
        for (int n = 1; n < 5; n++) {
            x.drop(n, 0);
        }
        edges.is("the last", x.object(4, 0, 3), 1);
        x.send(0, 0, 1, 5);
        x.drop(0, 0);
        edges.is("by FIELDS of what a REF holds", x.object(4, 0, 3), 1);
        x.come(0, 1);
        x.drop(1, 5);
        for (int n = 0; n < 5; n++) {
            edges.is("not by FIELDS of what is not HELD, " + n, x.object(n, 0, 3), 0);
        }
    }

    private void notHeldByItself() {
        edges.ofTerms(HELD, "rings");
        FarHeaps x = Scenes.ringOfTwo(2);
        edges.is("of NODE 0", x.object(0, 0, 3), 0);
        edges.is("of NODE 1", x.object(1, 0, 3), 0);
        FarHeaps y = Scenes.longRing(2);
        edges.is("none of 48", y.count(-1, 3), 48);
    }

    private void allAreHeld() {
        edges.ofTerms(HELD, "24 of each of 5 NODES");
        FarHeaps x = new FarHeaps(5);
        for (int n = 0; n < 5; n++) {
            x.make(n, 0, 12);
            x.make(n, 1, 12);
            for (int k = 2; k < 24; k++) {
                x.make(n, 2, 0);
                x.set(n, k % 2, k / 2, 2);
            }
            x.drop(n, 2);
        }
        edges.is("OBJECTS", x.count(-1, 0), 120);
        edges.is("OBJECTS that are not HELD", x.count(-1, 3), 0);
        x.drop(4, 1);
        edges.is("without one REGISTER", x.count(-1, 3), 12);
        x.drop(4, 0);
        edges.is("without another", x.count(-1, 3), 24);
    }
}
