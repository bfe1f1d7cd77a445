/** Promises 7 to 10, 19, 20 and 22: what goes between nodes. */
public final class MessagesTest {

    private static final Due DUE = new Due();

    public static void main(String[] args) {
        sendLocal();
        sendFar();
        sendWrong();
        sendFull();
        askAndGrant();
        askWrong();
        comeHome();
        comeWrong();
        grantWithoutImport();
        thirtyFirstImport();
        drainOrder();
        drainPassesOver();
        messageAnswers();
        weightAnswers();
        DUE.end();
    }

    private static void sendLocal() {
        FarHeaps x = new FarHeaps(3);
        x.make(1, 0, 0);
        DUE.is("send", x.send(1, 0, 2, 4), 64);
        DUE.is("total", x.object(1, 0, 2), 64);
        DUE.is("exports", x.count(1, 1), 1);
        DUE.is("send again", x.send(1, 0, 0, 0), 64);
        DUE.is("total of one export", x.object(1, 0, 2), 128);
        DUE.is("still one export", x.count(1, 1), 1);
        DUE.is("come", x.come(1, 2), 1);
        DUE.is("far in the register asked for", x.register(2, 4, 0), 3);
        DUE.is("its name", x.register(2, 4, 1), 100);
        DUE.is("weight", x.weight(2, 1, 0), 64);
        x.send(1, 0, 2, 4);
        x.come(1, 2);
        DUE.is("weight of one import", x.weight(2, 1, 0), 128);
        DUE.is("imports", x.count(2, 2), 1);
        DUE.is("the sender keeps it", x.register(1, 0, 0), 2);
        DUE.yes("isEven()", x.isEven());
    }

    private static void sendFar() {
        FarHeaps x = new FarHeaps(3);
        x.make(0, 0, 0);
        Scenes.bring(x, 0, 0, 1, 0);
        int[] sent = {32, 16, 8, 4, 2, 1};
        for (int w : sent) {
            DUE.is("half of it", x.send(1, 0, 2, 0), w);
            DUE.is("the import keeps the rest", x.weight(1, 0, 0), w);
        }
        DUE.is("dry", x.send(1, 0, 2, 0), -2);
        DUE.is("dry sends nothing", x.count(-1, 4), 6);
        DUE.is("dry keeps 1", x.weight(1, 0, 0), 1);
        DUE.yes("isEven()", x.isEven());
        x.drain(1000);
        DUE.is("the weights together", x.weight(2, 0, 0), 63);
        DUE.is("the whole part of an odd one's half", x.send(2, 0, 1, 0), 31);
        DUE.is("and the rest", x.weight(2, 0, 0), 32);
    }

    private static void sendWrong() {
        FarHeaps x = new FarHeaps(3);
        x.make(0, 0, 0);
        x.number(0, 1, 8);
        int[][] wrong = {{-1, 0, 1, 0}, {3, 0, 1, 0}, {0, -1, 1, 0}, {0, 6, 1, 0}, {0, 0, -1, 0}, {0, 0, 3, 0}, {0, 0, 1, -1},
            {0, 0, 1, 6}, {0, 0, 0, 0}, {0, 0, 0, 1}, {0, 1, 1, 0}, {0, 2, 1, 0}, {Scenes.MOST, 0, 1, 0}, {0, Scenes.MOST, 1, 0},
            {0, 0, Scenes.MOST, 0}, {0, 0, 1, Scenes.MOST}, {Scenes.LEAST, 0, 1, 0}, {0, Scenes.LEAST, 1, 0}};
        for (int[] w : wrong) {
            DUE.is("send of wrong " + w[0] + " " + w[1] + " " + w[2] + " " + w[3], x.send(w[0], w[1], w[2], w[3]), -1);
        }
        DUE.is("nothing under way", x.count(-1, 4), 0);
        DUE.is("no total", x.object(0, 0, 2), 0);
    }

    private static void sendFull() {
        FarHeaps x = new FarHeaps(3);
        x.make(0, 0, 0);
        Scenes.bring(x, 0, 0, 1, 0);
        for (int i = 0; i < 6; i++) {
            Scenes.bring(x, 1, 0, 2, 0);
        }
        DUE.is("dry ahead", x.send(1, 0, 2, 0), -2);
        for (int i = 0; i < 60; i++) {
            DUE.is("send of 60", x.send(0, 0, 1 + i % 2, 0), 64);
        }
        DUE.is("a 61st", x.send(0, 0, 1, 0), -1);
        DUE.is("leaves the total", x.object(0, 0, 2), 61 * 64);
        DUE.is("60 under way count ahead of dry", x.send(1, 0, 2, 0), -1);
        DUE.is("nor splits", x.send(2, 0, 1, 0), -1);
        DUE.is("the weight stays", x.weight(2, 0, 0), 63);
        DUE.no("ask as a 61st", x.ask(2, 0));
        DUE.is("60 under way", x.count(-1, 4), 60);
        DUE.is("30 to one", x.count(2, 4), 30);
        DUE.yes("isEven()", x.isEven());
        DUE.is("one comes", x.come(0, 2), 1);
        DUE.yes("ask as the 60th", x.ask(2, 0));
        DUE.is("an ask comes with 60 under way", x.come(2, 0), 3);
        DUE.is("its grant is the 60th", x.count(-1, 4), 60);
        DUE.is("drain of all", x.drain(1000), 60);
        DUE.yes("isEven() at last", x.isEven());
    }

    private static void askAndGrant() {
        FarHeaps x = new FarHeaps(3);
        x.make(2, 0, 0);
        x.make(2, 0, 0);
        Scenes.bring(x, 2, 0, 0, 3);
        DUE.yes("ask", x.ask(0, 3));
        DUE.is("kind", x.message(0, 2, 0, 0), 3);
        DUE.is("object", x.message(0, 2, 0, 1), 201);
        DUE.is("weight of an ask", x.message(0, 2, 0, 2), 0);
        DUE.is("register of an ask", x.message(0, 2, 0, 3), -1);
        DUE.is("the ask alone changes no total", x.object(2, 1, 2), 64);
        DUE.is("come", x.come(0, 2), 3);
        DUE.is("total", x.object(2, 1, 2), 128);
        DUE.is("kind of the answer", x.message(2, 0, 0, 0), 4);
        DUE.is("object of the answer", x.message(2, 0, 0, 1), 201);
        DUE.is("weight of the answer", x.message(2, 0, 0, 2), 64);
        DUE.is("register of the answer", x.message(2, 0, 0, 3), -1);
        DUE.yes("isEven() with a grant under way", x.isEven());
        DUE.is("come of the answer", x.come(2, 0), 4);
        DUE.is("weight", x.weight(0, 2, 1), 128);
        DUE.is("nothing more", x.come(2, 0), 0);
    }

    private static void askWrong() {
        FarHeaps x = new FarHeaps(2);
        x.make(0, 0, 0);
        x.number(0, 1, 1);
        int[][] wrong = {{-1, 0}, {2, 0}, {0, -1}, {0, 6}, {0, 0}, {0, 1}, {0, 2}, {Scenes.MOST, 0}, {0, Scenes.LEAST}};
        for (int[] w : wrong) {
            DUE.no("ask of wrong " + w[0] + " " + w[1], x.ask(w[0], w[1]));
        }
        DUE.is("nothing under way", x.count(-1, 4), 0);
    }

    private static void comeHome() {
        FarHeaps x = new FarHeaps(2);
        x.make(0, 0, 0);
        Scenes.bring(x, 0, 0, 1, 0);
        DUE.is("send home", x.send(1, 0, 0, 5), 32);
        x.number(0, 5, 4);
        DUE.is("come home", x.come(1, 0), 1);
        DUE.is("local there", x.register(0, 5, 0), 2);
        DUE.is("named 0", x.register(0, 5, 1), 0);
        DUE.is("total is less", x.object(0, 0, 2), 32);
        DUE.is("no import of one's own", x.count(0, 2), 0);
        x.drop(1, 0);
        DUE.is("an import stays till collecting", x.weight(1, 0, 0), 32);
        DUE.is("collect", x.collect(1), 0);
        DUE.is("dec", x.message(1, 0, 0, 0), 2);
        DUE.is("of the rest", x.message(1, 0, 0, 2), 32);
        DUE.is("register of a dec", x.message(1, 0, 0, 3), -1);
        DUE.yes("isEven() with a dec under way", x.isEven());
        DUE.is("dec comes", x.come(1, 0), 2);
        DUE.is("no export", x.count(0, 1), 0);
        DUE.is("no total", x.object(0, 0, 2), 0);
        FarHeaps y = new FarHeaps(2);
        y.make(0, 0, 0);
        Scenes.bring(y, 0, 0, 1, 0);
        y.send(1, 0, 0, 1);
        y.drop(1, 0);
        y.drop(0, 0);
        y.collect(1);
        DUE.is("ref ahead of dec", y.come(1, 0), 1);
        DUE.is("dec behind ref", y.come(1, 0), 2);
        DUE.is("held by the ref's register", y.collect(0), 0);
        DUE.is("local", y.register(0, 1, 0), 2);
    }

    private static void comeWrong() {
        FarHeaps x = new FarHeaps(3);
        x.make(0, 0, 0);
        x.send(0, 0, 1, 0);
        int[][] wrong = {{-1, 0}, {0, -1}, {3, 0}, {0, 3}, {0, 0}, {1, 1}, {Scenes.MOST, 0}, {0, Scenes.LEAST}, {Scenes.MOST, Scenes.MOST}};
        for (int[] w : wrong) {
            DUE.is("come of wrong " + w[0] + " " + w[1], x.come(w[0], w[1]), -1);
        }
        DUE.is("none in the other direction", x.come(1, 0), 0);
        DUE.is("none to another node", x.come(0, 2), 0);
        DUE.is("still under way", x.count(-1, 4), 1);
    }

    private static void grantWithoutImport() {
        FarHeaps x = new FarHeaps(2);
        x.make(0, 0, 0);
        Scenes.bring(x, 0, 0, 1, 0);
        x.drop(0, 0);
        x.ask(1, 0);
        x.drop(1, 0);
        DUE.is("the import is given back", x.collect(1), 0);
        DUE.is("ask first", x.come(1, 0), 3);
        DUE.is("then the dec", x.come(1, 0), 2);
        DUE.is("the grant keeps the export", x.object(0, 0, 2), 64);
        DUE.is("so nothing goes", x.collect(0), 0);
        DUE.is("grant", x.come(0, 1), 4);
        DUE.is("makes no import", x.weight(1, 0, 0), 0);
        DUE.is("no import", x.count(1, 2), 0);
        DUE.is("but a dec", x.message(1, 0, 0, 0), 2);
        DUE.is("of its object", x.message(1, 0, 0, 1), 0);
        DUE.is("of the same weight", x.message(1, 0, 0, 2), 64);
        DUE.yes("isEven()", x.isEven());
        DUE.is("dec comes", x.come(1, 0), 2);
        DUE.is("now it goes", x.collect(0), 1);
    }

    private static void thirtyFirstImport() {
        FarHeaps x = new FarHeaps(4);
        Scenes.giveImports(x, 0, 2, 22);
        Scenes.giveImports(x, 1, 2, 8);
        DUE.is("30 imports", x.count(2, 2), 30);
        x.make(1, 0, 0);
        x.make(2, 0, 0);
        Scenes.bring(x, 2, 0, 0, 0);
        x.number(2, 3, 77);
        DUE.is("send of a 31st", x.send(1, 0, 2, 3), 64);
        DUE.is("it stays", x.come(1, 2), -2);
        DUE.is("under way", x.count(2, 4), 1);
        DUE.is("the register is as it was", x.register(2, 3, 1), 77);
        DUE.is("no weight", x.weight(2, 1, 8), 0);
        DUE.is("what holds an object of the node", x.send(0, 0, 2, 3), 32);
        DUE.is("is no import there", x.come(0, 2), 1);
        x.make(0, 1, 0);
        x.make(0, 1, 0);
        DUE.is("another 31st", x.send(0, 1, 2, 3), 64);
        DUE.is("stays too", x.come(0, 2), -2);
        DUE.is("collecting", x.collect(2), 0);
        DUE.is("keeps the one in register 5", x.count(2, 2), 1);
        DUE.is("so it comes", x.come(1, 2), 1);
        DUE.is("into the register", x.register(2, 3, 1), 108);
        DUE.is("and the other", x.come(0, 2), 1);
        DUE.yes("isEven()", x.isEven());
        FarHeaps y = new FarHeaps(3);
        y.make(0, 0, 0);
        Scenes.bring(y, 0, 0, 2, 0);
        Scenes.giveImports(y, 1, 2, 23);
        Scenes.giveImports(y, 0, 2, 6);
        DUE.is("30 imports again", y.count(2, 2), 30);
        y.send(0, 0, 2, 1);
        DUE.is("more weight for one of the 30", y.come(0, 2), 1);
        DUE.is("the weight", y.weight(2, 0, 0), 128);
    }

    private static void drainOrder() {
        FarHeaps x = new FarHeaps(3);
        for (int n = 0; n < 3; n++) {
            x.make(n, 0, 0);
        }
        x.send(2, 0, 0, 1);
        x.send(1, 0, 2, 1);
        x.send(1, 0, 0, 2);
        x.send(0, 0, 2, 2);
        x.send(0, 0, 1, 1);
        DUE.is("drain(0)", x.drain(0), 0);
        DUE.is("all under way", x.count(-1, 4), 5);
        int[][] pairs = {{0, 1}, {0, 2}, {1, 0}, {1, 2}, {2, 0}};
        for (int i = 0; i < 5; i++) {
            DUE.is("first of the pair", x.message(pairs[i][0], pairs[i][1], 0, 0), 1);
            DUE.is("drain(1)", x.drain(1), 1);
            DUE.is("came from that pair", x.message(pairs[i][0], pairs[i][1], 0, 0), -1);
        }
        DUE.is("drain of nothing", x.drain(1), 0);
        DUE.is("drain(1000) of nothing", x.drain(1000), 0);
        int[] wrong = {-1, 1001, Scenes.MOST, Scenes.LEAST};
        x.send(0, 0, 1, 1);
        for (int k : wrong) {
            DUE.is("drain(" + k + ")", x.drain(k), -1);
        }
        DUE.is("it is under way", x.count(-1, 4), 1);
        x.ask(1, 1);
        DUE.is("what comes may send: ref, ask, grant", x.drain(1000), 3);
    }

    private static void drainPassesOver() {
        FarHeaps x = new FarHeaps(4);
        Scenes.giveImports(x, 0, 1, 20);
        Scenes.giveImports(x, 3, 1, 10);
        x.make(0, 0, 0);
        x.make(2, 0, 0);
        x.send(0, 0, 1, 0);
        x.send(0, 0, 1, 1);
        x.send(2, 0, 0, 0);
        x.send(2, 0, 3, 0);
        DUE.is("drain passes over the pair that stays", x.drain(1), 1);
        DUE.is("the next one came", x.register(0, 0, 1), 200);
        DUE.is("drain of all others", x.drain(1000), 1);
        DUE.is("two stay", x.count(1, 4), 2);
        DUE.is("drain again", x.drain(1000), 0);
    }

    private static void messageAnswers() {
        FarHeaps x = new FarHeaps(3);
        x.make(1, 0, 0);
        x.make(1, 1, 0);
        x.send(1, 1, 2, 5);
        x.send(1, 0, 0, 3);
        x.send(1, 0, 2, 4);
        DUE.is("kind", x.message(1, 2, 1, 0), 1);
        DUE.is("first object", x.message(1, 2, 0, 1), 101);
        DUE.is("second object", x.message(1, 2, 1, 1), 100);
        DUE.is("weight", x.message(1, 2, 1, 2), 64);
        DUE.is("first register", x.message(1, 2, 0, 3), 5);
        DUE.is("second register", x.message(1, 2, 1, 3), 4);
        DUE.is("register for another node", x.message(1, 0, 0, 3), 3);
        int[][] wrong = {{1, 2, 2, 0}, {1, 2, -1, 0}, {1, 2, 0, 4}, {1, 2, 0, -1}, {2, 1, 0, 0}, {1, 1, 0, 0}, {-1, 2, 0, 0},
            {1, -1, 0, 0}, {3, 2, 0, 0}, {1, 3, 0, 0}, {0, 0, 0, 0}, {1, 2, Scenes.MOST, 0}, {1, 2, Scenes.LEAST, 0},
            {1, 2, 0, Scenes.MOST}, {Scenes.MOST, 2, 0, 0}};
        for (int[] w : wrong) {
            DUE.is("message of wrong " + w[0] + " " + w[1] + " " + w[2] + " " + w[3], x.message(w[0], w[1], w[2], w[3]), -1);
        }
        x.come(1, 2);
        DUE.is("the second is the first now", x.message(1, 2, 0, 1), 100);
        DUE.is("and there is no second", x.message(1, 2, 1, 1), -1);
    }

    private static void weightAnswers() {
        FarHeaps x = new FarHeaps(3);
        x.make(1, 0, 0);
        x.make(1, 0, 0);
        Scenes.bring(x, 1, 0, 2, 0);
        DUE.is("weight", x.weight(2, 1, 1), 64);
        int[][] without = {{2, 1, 0}, {2, 0, 1}, {0, 1, 1}, {1, 1, 1}, {1, 2, 1}, {-1, 1, 1}, {3, 1, 1}, {2, -1, 1}, {2, 3, 1},
            {2, 1, -1}, {2, 1, 24}, {2, 0, 25}, {2, 2, -23}, {Scenes.MOST, 1, 1}, {2, Scenes.MOST, 1}, {2, 1, Scenes.MOST},
            {2, 1, Scenes.LEAST}};
        for (int[] w : without) {
            DUE.is("weight without an import " + w[0] + " " + w[1] + " " + w[2], x.weight(w[0], w[1], w[2]), 0);
        }
    }
}
