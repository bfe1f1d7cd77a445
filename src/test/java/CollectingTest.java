/** Promises 11, 13, 18 and 21: what a node holds, what goes, and what is counted. */
public final class CollectingTest {

    private static final Due DUE = new Due();

    public static void main(String[] args) {
        marking();
        layingTogether();
        givingBack();
        refusedCollecting();
        settleTurns();
        settleWithStaying();
        settleWithRefusedCollecting();
        objectAnswers();
        held();
        countAnswers();
        DUE.end();
    }

    private static void marking() {
        FarHeaps x = new FarHeaps(2);
        for (int k = 0; k < 5; k++) {
            x.make(0, k, 2);
        }
        x.set(0, 0, 1, 1);
        x.set(0, 1, 0, 2);
        x.set(0, 2, 0, 0);
        x.set(0, 3, 0, 4);
        x.set(0, 4, 0, 3);
        DUE.is("all held by registers", x.collect(0), 0);
        x.drop(0, 1);
        x.drop(0, 2);
        DUE.is("held by fields of marked ones", x.collect(0), 0);
        x.drop(0, 4);
        x.drop(0, 3);
        DUE.is("a ring in one node goes", x.collect(0), 2);
        x.send(0, 0, 1, 0);
        x.drop(0, 0);
        DUE.is("an export holds, and its fields", x.collect(0), 0);
        x.drain(1000);
        x.drop(1, 0);
        x.collect(1);
        x.drain(1000);
        DUE.is("without it all three go", x.collect(0), 3);
        DUE.is("nothing is there", x.count(-1, 0), 0);
        int[] wrong = {-1, 2, Scenes.MOST, Scenes.LEAST};
        for (int n : wrong) {
            DUE.is("collect of wrong " + n, x.collect(n), -1);
        }
    }

    private static void layingTogether() {
        FarHeaps x = new FarHeaps(2);
        x.make(0, 0, 1);
        x.make(0, 1, 2);
        x.make(0, 2, 3);
        x.drop(0, 0);
        DUE.is("the first goes", x.collect(0), 1);
        DUE.is("1 moves", x.object(0, 1, 0), 0);
        DUE.is("2 moves", x.object(0, 2, 0), 3);
        DUE.is("moved cells", x.count(0, 6), 7);
        x.make(0, 0, 1);
        DUE.is("0 is the last now", x.object(0, 0, 0), 7);
        x.drop(0, 1);
        DUE.is("1 goes", x.collect(0), 1);
        DUE.is("by addresses 2 is first", x.object(0, 2, 0), 0);
        DUE.is("and 0 behind it", x.object(0, 0, 0), 4);
        DUE.is("top", x.count(0, 5), 6);
        DUE.is("moved cells in all", x.count(0, 6), 13);
        x.make(0, 3, 0);
        x.drop(0, 3);
        DUE.is("the last goes", x.collect(0), 1);
        DUE.is("nothing moved", x.count(0, 6), 13);
        DUE.is("top is behind the others", x.count(0, 5), 6);
        DUE.is("moved in another node", x.count(1, 6), 0);
        x.make(1, 0, 0);
        x.make(1, 1, 4);
        x.drop(1, 0);
        x.collect(1);
        DUE.is("moved of all nodes", x.count(-1, 6), 18);
    }

    private static void givingBack() {
        FarHeaps x = new FarHeaps(4);
        for (int k = 0; k < 3; k++) {
            x.make(0, k, 0);
            x.make(3, k, 0);
        }
        x.make(1, 0, 0);
        int[][] sent = {{3, 2}, {1, 0}, {3, 0}, {0, 2}, {0, 1}, {0, 0}};
        for (int[] s : sent) {
            Scenes.bring(x, s[0], s[1], 2, 5);
        }
        x.make(2, 0, 1);
        x.set(2, 0, 0, 5);
        Scenes.bring(x, 3, 1, 2, 5);
        x.make(2, 1, 1);
        x.set(2, 1, 0, 5);
        x.drop(2, 1);
        DUE.is("imports ahead", x.count(2, 2), 7);
        DUE.is("one object goes", x.collect(2), 1);
        DUE.is("imports that register and field hold stay", x.count(2, 2), 2);
        DUE.is("the field's", x.weight(2, 0, 0), 64);
        DUE.is("the register's", x.weight(2, 3, 1), 64);
        DUE.is("dec to 0, by numbers", x.message(2, 0, 0, 1), 1);
        DUE.is("second dec to 0", x.message(2, 0, 1, 1), 2);
        DUE.is("no third to 0", x.message(2, 0, 2, 1), -1);
        DUE.is("dec to 1", x.message(2, 1, 0, 1), 100);
        DUE.is("dec to 3", x.message(2, 3, 0, 1), 300);
        DUE.is("second dec to 3", x.message(2, 3, 1, 1), 302);
        DUE.is("all are decs", x.message(2, 3, 1, 0), 2);
        DUE.is("of the whole weight", x.message(2, 3, 1, 2), 64);
        DUE.yes("isEven()", x.isEven());
        x.drop(2, 5);
        x.drop(2, 0);
        DUE.is("the holder goes, and its import", x.collect(2), 1);
        DUE.is("no imports", x.count(2, 2), 0);
    }

    private static void refusedCollecting() {
        FarHeaps x = new FarHeaps(3);
        Scenes.giveImports(x, 0, 1, 6);
        x.drop(1, 5);
        x.make(1, 0, 0);
        x.drop(1, 0);
        x.make(1, 1, 0);
        x.make(2, 0, 0);
        for (int i = 0; i < 55; i++) {
            x.send(2, 0, 0, 0);
        }
        DUE.is("6 decs with 55 under way", x.collect(1), -2);
        DUE.is("no object went", x.count(1, 0), 2);
        DUE.is("nothing moved", x.object(1, 1, 0), 1);
        DUE.is("no import went", x.count(1, 2), 6);
        DUE.is("nothing was sent", x.count(-1, 4), 55);
        x.come(2, 0);
        DUE.is("6 decs with 54 under way", x.collect(1), 1);
        DUE.is("60 under way", x.count(-1, 4), 60);
        x.make(0, 1, 0);
        x.drop(0, 1);
        DUE.is("no decs with 60 under way", x.collect(0), 1);
        DUE.yes("isEven()", x.isEven());
    }

    private static void settleTurns() {
        FarHeaps x = new FarHeaps(3);
        DUE.is("settle of nothing", x.settle(), 0);
        x.make(2, 0, 0);
        Scenes.bring(x, 2, 0, 1, 0);
        x.drop(2, 0);
        x.make(1, 1, 1);
        x.set(1, 1, 0, 0);
        Scenes.bring(x, 1, 1, 0, 0);
        Scenes.dropAll(x, 1);
        x.make(0, 1, 1);
        x.set(0, 1, 0, 0);
        x.drop(0, 0);
        x.number(2, 4, 1);
        DUE.is("settle of a held chain", x.settle(), 0);
        x.drop(0, 1);
        DUE.is("settle takes the chain through three nodes", x.settle(), 3);
        DUE.is("nothing is left", x.count(-1, 0) + x.count(-1, 1) + x.count(-1, 2) + x.count(-1, 4), 0);
        x.make(0, 0, 0);
        x.send(0, 0, 1, 0);
        x.drop(0, 0);
        DUE.is("a ref under way comes first", x.settle(), 0);
        DUE.is("and holds", x.register(1, 0, 0), 3);
        DUE.is("a ring through nodes is not found by settle", Scenes.ringOfTwo(2).settle(), 0);
    }

    private static FarHeaps fullOfImports() {
        FarHeaps x = new FarHeaps(4);
        for (int a = 0; a < 3; a++) {
            x.make(1, a, 12);
        }
        Scenes.giveHeldImports(x, 0, 1, 0, 0, 12);
        Scenes.giveHeldImports(x, 0, 1, 1, 0, 8);
        Scenes.giveHeldImports(x, 2, 1, 2, 0, 10);
        return x;
    }

    private static void settleWithStaying() {
        FarHeaps x = fullOfImports();
        DUE.is("30 imports held", x.count(1, 2), 30);
        x.make(3, 0, 0);
        x.make(3, 1, 0);
        x.make(0, 1, 0);
        x.drop(3, 1);
        x.drop(0, 1);
        x.send(3, 0, 1, 5);
        DUE.is("a ref stays", x.settle(), -2);
        DUE.is("what was done stays", x.count(3, 0), 1);
        DUE.is("in all nodes", x.count(0, 0), 20);
        DUE.is("pass likewise", x.pass(), -2);
        DUE.is("it is under way", x.count(1, 4), 1);
        x.drop(1, 2);
        DUE.is("with room it comes, the holder and its ten go", x.settle(), 11);
        DUE.is("it came", x.register(1, 5, 1), 300);
    }

    private static void settleWithRefusedCollecting() {
        FarHeaps x = fullOfImports();
        x.make(3, 0, 0);
        Scenes.bring(x, 3, 0, 2, 0);
        x.drop(2, 0);
        x.make(0, 0, 0);
        x.make(3, 1, 0);
        x.drop(0, 0);
        x.drop(3, 1);
        for (int i = 0; i < 60; i++) {
            DUE.is("send", x.send(3, 0, 1, 5), 64);
        }
        DUE.is("a collecting is refused", x.settle(), -2);
        DUE.is("nodes ahead of it were collected", x.count(0, 0), 20);
        DUE.is("those behind it were not", x.count(3, 0), 2);
        DUE.is("all are under way", x.count(1, 4), 60);
        DUE.is("pass likewise", x.pass(), -2);
        DUE.yes("isEven()", x.isEven());
    }

    private static void objectAnswers() {
        FarHeaps x = new FarHeaps(2);
        x.make(1, 0, 3);
        x.make(1, 1, 12);
        x.send(1, 1, 0, 0);
        DUE.is("address", x.object(1, 1, 0), 4);
        DUE.is("fields", x.object(1, 1, 1), 12);
        DUE.is("total", x.object(1, 1, 2), 64);
        DUE.is("total without an export", x.object(1, 0, 2), 0);
        DUE.is("held", x.object(1, 1, 3), 1);
        int[][] wrong = {{1, 2, 0}, {1, -1, 0}, {1, 24, 0}, {0, 0, 0}, {-1, 0, 0}, {2, 0, 0}, {1, 0, 4}, {1, 0, -1},
            {Scenes.MOST, 0, 0}, {1, Scenes.MOST, 0}, {1, 0, Scenes.MOST}, {1, Scenes.LEAST, 3}};
        for (int[] w : wrong) {
            DUE.is("object of wrong " + w[0] + " " + w[1] + " " + w[2], x.object(w[0], w[1], w[2]), -2);
        }
    }

    private static void held() {
        FarHeaps x = new FarHeaps(3);
        x.make(0, 0, 1);
        x.make(1, 0, 1);
        x.make(1, 1, 0);
        x.set(1, 0, 0, 1);
        x.drop(1, 1);
        Scenes.bring(x, 1, 0, 0, 1);
        x.set(0, 0, 0, 1);
        x.drop(0, 1);
        x.drop(1, 0);
        DUE.is("held through fields of two nodes", x.object(1, 1, 3), 1);
        DUE.is("none is not held", x.count(-1, 3), 0);
        x.send(0, 0, 2, 0);
        x.drop(0, 0);
        DUE.is("a ref under way holds", x.object(0, 0, 3), 1);
        DUE.is("and what it holds", x.object(1, 1, 3), 1);
        x.come(0, 2);
        DUE.is("a far register holds", x.object(1, 1, 3), 1);
        x.ask(2, 0);
        x.drop(2, 0);
        DUE.is("an ask does not", x.object(0, 0, 3), 0);
        DUE.is("none is held", x.count(-1, 3), 3);
        DUE.is("in node 1", x.count(1, 3), 2);
        x.come(2, 0);
        DUE.is("a grant does not", x.object(1, 1, 3), 0);
        FarHeaps y = Scenes.ringOfTwo(2);
        y.make(0, 0, 0);
        y.collect(0);
        DUE.is("a ring that no register holds", y.count(-1, 3), 2);
        y.collect(0);
        DUE.is("in one node", y.count(0, 3), 1);
        DUE.is("counted by object() alike", y.object(0, 0, 3) + 2 * y.object(0, 1, 3), 2);
    }

    private static void countAnswers() {
        FarHeaps x = new FarHeaps(3);
        x.make(0, 0, 2);
        x.make(0, 1, 3);
        x.make(1, 0, 4);
        x.drop(0, 1);
        Scenes.bring(x, 0, 0, 2, 0);
        Scenes.bring(x, 1, 0, 2, 1);
        x.send(0, 0, 1, 1);
        x.send(0, 0, 2, 1);
        int[][] due = {{3, 2, 1, 0}, {2, 1, 1, 0}, {2, 0, 0, 2}, {1, 1, 0, 0}, {2, 0, 1, 1}, {12, 7, 5, 0}, {0, 0, 0, 0}};
        for (int what = 0; what <= 6; what++) {
            for (int n = -1; n < 3; n++) {
                DUE.is("count(" + n + ", " + what + ")", x.count(n, what), due[what][n + 1]);
            }
        }
        int[][] wrong = {{-2, 0}, {3, 0}, {0, -1}, {0, 7}, {-1, 7}, {-1, -1}, {Scenes.MOST, 0}, {Scenes.LEAST, 0}, {0, Scenes.MOST},
            {0, Scenes.LEAST}};
        for (int[] w : wrong) {
            DUE.is("count of wrong " + w[0] + " " + w[1], x.count(w[0], w[1]), -1);
        }
    }
}
