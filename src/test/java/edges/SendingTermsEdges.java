/** The second part of the terms: what is sent, and what comes. */
final class SendingTermsEdges {

    private static final String LOCAL =
        "SENDING what a REGISTER holds to another NODE, for a REGISTER there: of a LOCAL OBJECT: its TOTAL is 64 more "
        + "(a new EXPORT has 0 ahead of that), the REF has WEIGHT 64.";
    private static final String FAR =
        "Of a FAR one: if the IMPORT's WEIGHT w is above 1 the REF has the whole part of w / 2, the IMPORT keeps the rest";
    private static final String NEW_IMPORT =
        "Of another one: the REGISTER holds it; the IMPORT's WEIGHT is more by that (a new IMPORT has 0 ahead of it).";
    private static final String GRANT = "GRANT: the IMPORT's WEIGHT is more by that";
    private static final String NO_IMPORT = "if there is no such IMPORT (any more), a DEC of it goes back to the OBJECT's NODE.";

    private final Edges edges;

    SendingTermsEdges(Edges edges) {
        this.edges = edges;
    }

    void run() {
        edges.test(this::aFirstExport);
        edges.test(this::anExportThatIsThere);
        edges.test(this::anExportAgain);
        edges.test(this::evenAndOddWeights);
        edges.test(this::weightTwo);
        edges.test(this::weightOne);
        edges.test(this::comesHome);
        edges.test(this::aFirstImport);
        edges.test(this::aFirstImportOfOne);
        edges.test(this::anImportThatIsThere);
        edges.test(this::anImportAgain);
        edges.test(this::decOfAPart);
        edges.test(this::decOfAll);
        edges.test(this::decOfAllWhileARegisterHolds);
        edges.test(this::asks);
        edges.test(this::asksWithSixtyUnderWay);
        edges.test(this::grants);
        edges.test(this::grantsWithThirtyImports);
        edges.test(this::grantWithoutImport);
        edges.test(this::grantWithoutImportWithSixtyUnderWay);
        edges.test(this::grantForANewImport);
        edges.test(this::heldAhead);
        edges.test(this::importsStay);
    }

    private void aFirstExport() {
        edges.ofTerms(LOCAL, "a first EXPORT");
        FarHeaps x = new FarHeaps(2);
        x.make(0, 0, 0);
        edges.is("its TOTAL ahead", x.object(0, 0, 2), 0);
        edges.is("send", x.send(0, 0, 1, 0), 64);
        edges.is("its TOTAL", x.object(0, 0, 2), 64);
        edges.is("the REF's WEIGHT", x.message(0, 1, 0, 2), 64);
    }

    private void anExportThatIsThere() {
        edges.ofTerms(LOCAL, "an EXPORT that is there");
        FarHeaps x = Scenes.weightOne();
        edges.is("send", x.send(0, 0, 1, 0), 64);
        edges.is("its TOTAL", x.object(0, 0, 2), 128);
        edges.is("EXPORTS", x.count(0, 1), 1);
    }

    private void anExportAgain() {
        edges.ofTerms(LOCAL, "an EXPORT again");
        FarHeaps x = new FarHeaps(2);
        x.make(0, 0, 0);
        Scenes.bring(x, 0, 0, 1, 0);
        x.drop(1, 0);
        x.settle();
        edges.is("its TOTAL ahead", x.object(0, 0, 2), 0);
        edges.is("send", x.send(0, 0, 1, 0), 64);
        edges.is("its TOTAL", x.object(0, 0, 2), 64);
    }

    private void evenAndOddWeights() {
        edges.ofTerms(FAR, "even and odd");
        FarHeaps x = Scenes.weightOne();
        edges.is("send of 63", x.send(2, 0, 1, 0), 31);
        edges.is("it keeps 32", x.weight(2, 0, 0), 32);
        edges.is("send of 32", x.send(2, 0, 1, 0), 16);
        edges.is("it keeps 16", x.weight(2, 0, 0), 16);
        edges.is("the REF of 31", x.message(2, 1, 0, 2), 31);
        edges.is("the REF of 16", x.message(2, 1, 1, 2), 16);
        edges.is("the TOTAL stays", x.object(0, 0, 2), 64);
    }

    private void weightTwo() {
        edges.ofTerms(FAR, "just above 1");
        FarHeaps x = new FarHeaps(3);
        x.make(0, 0, 0);
        Scenes.bring(x, 0, 0, 1, 0);
        for (int i = 0; i < 5; i++) {
            x.send(1, 0, 2, 0);
        }
        edges.is("its WEIGHT", x.weight(1, 0, 0), 2);
        edges.is("send of 2", x.send(1, 0, 2, 0), 1);
        edges.is("it keeps 1", x.weight(1, 0, 0), 1);
        edges.is("the REF of 1", x.message(1, 2, 5, 2), 1);
    }

    private void weightOne() {
        edges.ofTerms("of 1 it is DRY: nothing is sent.");
        edges.leaves("send of 1", -2, Scenes::weightOne, x -> x.send(1, 0, 2, 0));
    }

    private void comesHome() {
        edges.ofTerms("A MESSAGE COMES to NODE n. REF: of an OBJECT of n: the REGISTER holds it, its TOTAL is less by the WEIGHT.");
        FarHeaps x = Scenes.weightOne();
        x.send(2, 0, 0, 5);
        edges.is("come", x.come(2, 0), 1);
        edges.is("a LOCAL one", x.register(0, 5, 0), 2);
        edges.is("its number", x.register(0, 5, 1), 0);
        edges.is("its TOTAL", x.object(0, 0, 2), 33);
        edges.is("no IMPORT of it", x.count(0, 2), 0);
    }

    private void aFirstImport() {
        edges.ofTerms(NEW_IMPORT, "a first IMPORT");
        FarHeaps x = new FarHeaps(2);
        x.make(1, 0, 0);
        x.send(1, 0, 0, 5);
        edges.is("come", x.come(1, 0), 1);
        edges.is("a FAR one", x.register(0, 5, 0), 3);
        edges.is("its number", x.register(0, 5, 1), 100);
        edges.is("its WEIGHT", x.weight(0, 1, 0), 64);
        edges.is("the TOTAL stays", x.object(1, 0, 2), 64);
    }

    private void aFirstImportOfOne() {
        edges.ofTerms(NEW_IMPORT, "a first IMPORT of the least WEIGHT");
        FarHeaps x = new FarHeaps(4);
        x.make(0, 0, 0);
        Scenes.bring(x, 0, 0, 1, 0);
        for (int i = 0; i < 5; i++) {
            x.send(1, 0, 2, 0);
        }
        edges.is("send of 2", x.send(1, 0, 3, 0), 1);
        x.come(1, 3);
        edges.is("its WEIGHT", x.weight(3, 0, 0), 1);
        edges.is("IMPORTS", x.count(3, 2), 1);
        x.drop(3, 0);
        x.collect(3);
        edges.is("IMPORTS behind collecting", x.count(3, 2), 0);
        edges.is("the DEC", x.message(3, 0, 0, 2), 1);
    }

    private void anImportThatIsThere() {
        edges.ofTerms(NEW_IMPORT, "an IMPORT that is there");
        FarHeaps x = Scenes.weightOne();
        x.send(2, 0, 1, 3);
        x.come(2, 1);
        edges.is("its WEIGHT", x.weight(1, 0, 0), 32);
        edges.is("IMPORTS", x.count(1, 2), 1);
    }

    private void anImportAgain() {
        edges.ofTerms(NEW_IMPORT, "an IMPORT again");
        FarHeaps x = Scenes.weightOne();
        x.drop(1, 0);
        x.collect(1);
        x.send(2, 0, 1, 3);
        edges.is("come", x.come(2, 1), 1);
        edges.is("its WEIGHT", x.weight(1, 0, 0), 31);
        edges.is("IMPORTS", x.count(1, 2), 1);
    }

    private void decOfAPart() {
        edges.ofTerms("DEC: the TOTAL is less by the WEIGHT.");
        FarHeaps x = Scenes.weightOne();
        x.drop(2, 0);
        x.collect(2);
        edges.is("the TOTAL ahead", x.object(0, 0, 2), 64);
        edges.is("a DEC of 63", x.come(2, 0), 2);
        edges.is("the TOTAL", x.object(0, 0, 2), 1);
        edges.is("an EXPORT still", x.count(0, 1), 1);
        x.drop(0, 0);
        edges.is("that keeps it", x.collect(0), 0);
    }

    private void decOfAll() {
        edges.ofTerms("(An EXPORT whose TOTAL is 0 is none any more.)", "nothing else holds it");
        FarHeaps x = Scenes.weightOne();
        Scenes.dropAll(x, 0);
        Scenes.dropAll(x, 1);
        Scenes.dropAll(x, 2);
        x.collect(1);
        x.collect(2);
        x.come(2, 0);
        edges.is("with TOTAL 1", x.collect(0), 0);
        x.come(1, 0);
        edges.is("EXPORTS", x.count(0, 1), 0);
        edges.is("trial", x.trial(0, 0), -1);
        edges.is("with TOTAL 0", x.collect(0), 1);
    }

    private void decOfAllWhileARegisterHolds() {
        edges.ofTerms("(An EXPORT whose TOTAL is 0 is none any more.)", "a REGISTER holds it");
        FarHeaps x = Scenes.weightOne();
        Scenes.dropAll(x, 1);
        Scenes.dropAll(x, 2);
        edges.is("settle", x.settle(), 0);
        edges.is("EXPORTS", x.count(0, 1), 0);
        edges.is("the OBJECT stays", x.object(0, 0, 3), 1);
    }

    private void asks() {
        edges.ofTerms("ASK from m: the TOTAL is 64 more, a GRANT of 64 goes to m.", "one of two NODES that have it");
        FarHeaps x = Scenes.weightOne();
        x.ask(2, 0);
        edges.is("come", x.come(2, 0), 3);
        edges.is("the TOTAL", x.object(0, 0, 2), 128);
        edges.is("a GRANT to 2", x.message(0, 2, 0, 0), 4);
        edges.is("of 64", x.message(0, 2, 0, 2), 64);
        edges.is("none to 1", x.count(1, 4), 0);
    }

    private void asksWithSixtyUnderWay() {
        edges.ofTerms("ASK from m: the TOTAL is 64 more, a GRANT of 64 goes to m.", "60 are UNDER WAY");
        FarHeaps x = Scenes.underWay(59);
        x.ask(1, 0);
        edges.is("UNDER WAY", x.count(-1, 4), 60);
        edges.is("come", x.come(1, 0), 3);
        edges.is("UNDER WAY again", x.count(-1, 4), 60);
        edges.is("the TOTAL", x.object(0, 0, 2), 61 * 64);
        edges.is("the GRANT is the last to 1", x.message(0, 1, 30, 0), 4);
    }

    private void grants() {
        edges.ofTerms(GRANT, "the least WEIGHT");
        FarHeaps x = Scenes.weightOne();
        x.ask(1, 0);
        x.come(1, 0);
        edges.is("come", x.come(0, 1), 4);
        edges.is("its WEIGHT", x.weight(1, 0, 0), 65);
        edges.is("IMPORTS", x.count(1, 2), 1);
    }

    private void grantsWithThirtyImports() {
        edges.ofTerms(GRANT, "30 IMPORTS");
        FarHeaps x = Scenes.heldImports(30);
        x.get(1, 0, 11, 4);
        x.ask(1, 4);
        x.come(1, 0);
        edges.is("come", x.come(0, 1), 4);
        edges.is("its WEIGHT", x.weight(1, 0, 11), 128);
        edges.is("IMPORTS", x.count(1, 2), 30);
    }

    private void grantWithoutImport() {
        edges.ofTerms(NO_IMPORT, "none any more");
        FarHeaps x = Scenes.weightOne();
        x.ask(1, 0);
        x.drop(1, 0);
        x.collect(1);
        x.come(1, 0);
        edges.is("come", x.come(0, 1), 4);
        edges.is("no IMPORT", x.count(1, 2), 0);
        edges.is("no WEIGHT", x.weight(1, 0, 0), 0);
        edges.is("the DEC of the IMPORT", x.message(1, 0, 0, 2), 1);
        edges.is("the DEC of the GRANT", x.message(1, 0, 1, 0), 2);
        edges.is("its OBJECT", x.message(1, 0, 1, 1), 0);
        edges.is("its WEIGHT", x.message(1, 0, 1, 2), 64);
        x.drain(1000);
        edges.is("the TOTAL", x.object(0, 0, 2), 63);
    }

    private void grantWithoutImportWithSixtyUnderWay() {
        edges.ofTerms(NO_IMPORT, "60 are UNDER WAY");
        FarHeaps x = new FarHeaps(3);
        x.make(0, 0, 0);
        x.make(2, 0, 0);
        Scenes.bring(x, 0, 0, 1, 0);
        x.ask(1, 0);
        x.drop(1, 0);
        x.collect(1);
        x.come(1, 0);
        for (int i = 0; i < 58; i++) {
            x.send(2, 0, 1, 1);
        }
        edges.is("UNDER WAY", x.count(-1, 4), 60);
        edges.is("come", x.come(0, 1), 4);
        edges.is("UNDER WAY again", x.count(-1, 4), 60);
        edges.is("the DEC", x.message(1, 0, 1, 2), 64);
    }

    private void grantForANewImport() {
        edges.ofTerms(NO_IMPORT, "there is one again");
        FarHeaps x = Scenes.weightOne();
        x.ask(1, 0);
        x.drop(1, 0);
        x.collect(1);
        x.come(1, 0);
        Scenes.bring(x, 2, 0, 1, 3);
        edges.is("UNDER WAY", x.count(-1, 4), 0);
        edges.is("its WEIGHT, for the GRANT came first", x.weight(1, 0, 0), 31);
        FarHeaps y = Scenes.weightOne();
        y.ask(1, 0);
        y.drop(1, 0);
        y.collect(1);
        y.come(1, 0);
        y.send(2, 0, 1, 3);
        y.come(2, 1);
        edges.is("come of the GRANT", y.come(0, 1), 4);
        edges.is("its WEIGHT, for the REF came first", y.weight(1, 0, 0), 95);
        edges.is("only the DEC of the IMPORT", y.count(0, 4), 1);
    }

    private void heldAhead() {
        edges.ofTerms("What a REGISTER held ahead is held by it no more");
        FarHeaps x = new FarHeaps(2);
        x.make(0, 0, 0);
        x.make(1, 5, 0);
        x.send(0, 0, 1, 5);
        edges.is("ahead", x.object(1, 0, 3), 1);
        x.come(0, 1);
        edges.is("behind", x.object(1, 0, 3), 0);
        edges.is("collect", x.collect(1), 1);
        x.send(0, 0, 1, 4);
        x.number(1, 4, 3);
        x.come(0, 1);
        edges.is("an INT is no more", x.register(1, 4, 0), 3);
    }

    private void importsStay() {
        edges.ofTerms("IMPORTS stay till they are given back by COLLECTING.");
        FarHeaps x = new FarHeaps(2);
        x.make(0, 0, 0);
        x.make(0, 1, 0);
        Scenes.bring(x, 0, 0, 1, 5);
        Scenes.bring(x, 0, 1, 1, 5);
        edges.is("another REF came for the REGISTER", x.weight(1, 0, 0), 64);
        edges.is("IMPORTS", x.count(1, 2), 2);
        x.drop(1, 5);
        edges.is("IMPORTS behind drop", x.count(1, 2), 2);
        x.collect(0);
        edges.is("IMPORTS behind collecting another NODE", x.count(1, 2), 2);
        x.collect(1);
        edges.is("IMPORTS behind collecting", x.count(1, 2), 0);
    }
}
