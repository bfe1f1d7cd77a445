/** Promises 1 to 6 and 15 to 17: what one node does by itself. */
public final class ObjectsTest {

    private static final Due DUE = new Due();

    public static void main(String[] args) {
        newObject();
        makeNumbers();
        makeWrong();
        makeRoom();
        setAndGet();
        setAndGetWrong();
        numberAndDrop();
        registerAnswers();
        fieldAnswers();
        cellAnswers();
        DUE.end();
    }

    private static void newObject() {
        int[] asked = {Scenes.LEAST, -1, 0, 1, 2, 3, 4, 5, 6, Scenes.MOST};
        int[] nodes = {1, 1, 1, 1, 2, 3, 4, 5, 5, 5};
        for (int i = 0; i < asked.length; i++) {
            FarHeaps x = new FarHeaps(asked[i]);
            int there = 0;
            for (int n = 0; n < 7; n++) {
                there += x.drop(n, 0) ? 1 : 0;
            }
            DUE.is("nodes of new FarHeaps(" + asked[i] + ")", there, nodes[i]);
            for (int what = 0; what <= 6; what++) {
                DUE.is("count(-1, " + what + ") at first", x.count(-1, what), 0);
            }
            for (int a = 0; a < 6; a++) {
                DUE.is("register(0, " + a + ", 0) at first", x.register(0, a, 0), 0);
            }
            DUE.yes("isEven() at first", x.isEven());
        }
    }

    private static void makeNumbers() {
        FarHeaps x = new FarHeaps(2);
        DUE.is("first make", x.make(0, 0, 2), 0);
        DUE.is("second make", x.make(0, 1, 0), 1);
        DUE.is("third make", x.make(0, 2, 12), 2);
        DUE.is("first make in another node", x.make(1, 0, 1), 0);
        DUE.is("address of 1", x.object(0, 1, 0), 3);
        DUE.is("address of 2", x.object(0, 2, 0), 4);
        DUE.is("top", x.count(0, 5), 17);
        x.drop(0, 1);
        DUE.is("collect", x.collect(0), 1);
        DUE.is("the least free number", x.make(0, 3, 1), 1);
        DUE.is("it lies at top", x.object(0, 1, 0), 16);
        DUE.is("what a register held ahead", x.make(0, 0, 0), 3);
        DUE.is("is held by it no more", x.object(0, 0, 3), 0);
        x.number(0, 4, 7);
        DUE.yes("set", x.set(0, 3, 0, 4));
        x.drop(0, 3);
        x.collect(0);
        DUE.is("make on a number used ahead", x.make(0, 5, 3), 0);
        for (int f = 0; f < 3; f++) {
            DUE.is("its fields hold nothing", x.field(0, 0, f, 0), 0);
        }
        DUE.is("make on 1 again", x.make(0, 5, 3), 1);
        DUE.is("its field holds nothing", x.field(0, 1, 0, 0), 0);
    }

    private static void makeWrong() {
        FarHeaps x = new FarHeaps(2);
        int[][] wrong = {{-1, 0, 0}, {2, 0, 0}, {Scenes.LEAST, 0, 0}, {Scenes.MOST, 0, 0}, {0, -1, 0}, {0, 6, 0},
            {0, Scenes.MOST, 0}, {0, Scenes.LEAST, 0}, {0, 0, -1}, {0, 0, 13}, {0, 0, Scenes.MOST}, {0, 0, Scenes.LEAST}};
        for (int[] w : wrong) {
            DUE.is("make of wrong " + w[0] + " " + w[1] + " " + w[2], x.make(w[0], w[1], w[2]), -1);
        }
        DUE.is("objects behind wrong makes", x.count(-1, 0), 0);
        for (int k = 0; k < 24; k++) {
            DUE.is("make of 24", x.make(0, 0, 0), k);
        }
        DUE.is("a 25th", x.make(0, 1, 0), -1);
        DUE.is("leaves the register", x.register(0, 1, 0), 0);
        DUE.is("leaves top", x.count(0, 5), 24);
    }

    private static void makeRoom() {
        FarHeaps x = new FarHeaps(1);
        for (int k = 0; k < 12; k++) {
            DUE.is("make of 13 cells", x.make(0, 0, 12), k);
        }
        x.number(0, 1, 5);
        DUE.is("5 cells behind 156", x.make(0, 1, 4), -2);
        DUE.is("-2 leaves the register", x.register(0, 1, 1), 5);
        DUE.is("-2 leaves top", x.count(0, 5), 156);
        DUE.is("4 cells behind 156", x.make(0, 1, 3), 12);
        DUE.is("top is 160", x.count(0, 5), 160);
        DUE.is("1 cell behind 160", x.make(0, 2, 0), -2);
        DUE.is("13 cells behind 160", x.make(0, 2, 12), -2);
        DUE.is("wrong s behind 160", x.make(0, 2, 13), -1);
        FarHeaps y = new FarHeaps(1);
        for (int k = 0; k < 24; k++) {
            DUE.is("make, 160 cells in 24", y.make(0, 0, k < 11 ? 12 : k == 11 ? 4 : 0), k);
        }
        DUE.is("top is 160 with 24", y.count(0, 5), 160);
        DUE.is("24 there counts ahead of no room", y.make(0, 0, 0), -1);
    }

    private static void setAndGet() {
        FarHeaps x = new FarHeaps(2);
        x.make(1, 0, 0);
        x.make(1, 0, 0);
        x.make(0, 0, 3);
        Scenes.bring(x, 1, 0, 0, 1);
        x.number(0, 2, -9);
        DUE.yes("set of a far one", x.set(0, 0, 0, 1));
        DUE.yes("set of an int", x.set(0, 0, 1, 2));
        DUE.yes("set of itself", x.set(0, 0, 2, 0));
        int[] kinds = {3, 1, 2};
        int[] contents = {101, -9, 0};
        for (int f = 0; f < 3; f++) {
            DUE.is("kind in field " + f, x.field(0, 0, f, 0), kinds[f]);
            DUE.is("content of field " + f, x.field(0, 0, f, 1), contents[f]);
            DUE.yes("get of field " + f, x.get(0, 0, f, 3));
            DUE.is("kind in register", x.register(0, 3, 0), kinds[f]);
            DUE.is("content of register", x.register(0, 3, 1), contents[f]);
        }
        DUE.yes("set of nothing", x.set(0, 0, 1, 5));
        DUE.is("nothing in field 1", x.field(0, 0, 1, 0), 0);
        DUE.is("nothing tells 0", x.field(0, 0, 1, 1), 0);
        DUE.yes("get of nothing", x.get(0, 0, 1, 3));
        DUE.is("nothing in register 3", x.register(0, 3, 0), 0);
        DUE.is("nothing in register 3 tells 0", x.register(0, 3, 1), 0);
        DUE.yes("get into the register itself", x.get(0, 0, 0, 0));
        DUE.is("holds the far one", x.register(0, 0, 1), 101);
        DUE.no("set through a far one", x.set(0, 0, 0, 2));
        DUE.no("get through a far one", x.get(0, 0, 0, 2));
    }

    private static void setAndGetWrong() {
        FarHeaps x = new FarHeaps(2);
        x.make(0, 0, 2);
        x.number(0, 1, 3);
        x.number(0, 2, 4);
        x.set(0, 0, 1, 2);
        int[][] wrong = {{-1, 0, 0, 1}, {2, 0, 0, 1}, {1, 0, 0, 1}, {0, -1, 0, 1}, {0, 6, 0, 1}, {0, 1, 0, 1},
            {0, 3, 0, 1}, {0, 0, -1, 1}, {0, 0, 2, 1}, {0, 0, 12, 1}, {0, 0, 0, -1}, {0, 0, 0, 6},
            {Scenes.MOST, 0, 0, 1}, {0, Scenes.MOST, 0, 1}, {0, 0, Scenes.MOST, 1}, {0, 0, 0, Scenes.MOST},
            {Scenes.LEAST, 0, 0, 1}, {0, Scenes.LEAST, 0, 1}, {0, 0, Scenes.LEAST, 1}, {0, 0, 0, Scenes.LEAST}};
        for (int[] w : wrong) {
            String told = w[0] + " " + w[1] + " " + w[2] + " " + w[3];
            DUE.no("set of wrong " + told, x.set(w[0], w[1], w[2], w[3]));
            DUE.no("get of wrong " + told, x.get(w[0], w[1], w[2], w[3]));
        }
        DUE.is("field 0 is as it was", x.field(0, 0, 0, 0), 0);
        DUE.is("field 1 is as it was", x.field(0, 0, 1, 1), 4);
        DUE.is("register 1 is as it was", x.register(0, 1, 1), 3);
        x.make(0, 3, 0);
        DUE.no("set of an object without fields", x.set(0, 3, 0, 1));
        DUE.no("get of an object without fields", x.get(0, 3, 0, 1));
    }

    private static void numberAndDrop() {
        FarHeaps x = new FarHeaps(2);
        DUE.yes("number", x.number(1, 5, Scenes.LEAST));
        DUE.is("an int", x.register(1, 5, 0), 1);
        DUE.is("the least int", x.register(1, 5, 1), Scenes.LEAST);
        DUE.yes("number again", x.number(1, 5, Scenes.MOST));
        DUE.is("the most int", x.register(1, 5, 1), Scenes.MOST);
        DUE.is("no other register", x.register(1, 4, 0), 0);
        DUE.is("no other node", x.register(0, 5, 0), 0);
        DUE.yes("drop", x.drop(1, 5));
        DUE.is("nothing", x.register(1, 5, 0), 0);
        DUE.is("nothing tells 0", x.register(1, 5, 1), 0);
        DUE.yes("drop of nothing", x.drop(1, 5));
        int[][] wrong = {{-1, 0}, {2, 0}, {0, -1}, {0, 6}, {Scenes.MOST, 0}, {0, Scenes.MOST}, {Scenes.LEAST, 0}, {0, Scenes.LEAST}};
        for (int[] w : wrong) {
            DUE.no("number of wrong " + w[0] + " " + w[1], x.number(w[0], w[1], 1));
            DUE.no("drop of wrong " + w[0] + " " + w[1], x.drop(w[0], w[1]));
        }
        x.make(0, 0, 0);
        x.number(0, 0, 0);
        DUE.is("an int 0 is an int", x.register(0, 0, 0), 1);
        DUE.is("the object is held no more", x.object(0, 0, 3), 0);
    }

    private static void registerAnswers() {
        FarHeaps x = new FarHeaps(5);
        x.make(4, 0, 0);
        x.make(4, 1, 0);
        DUE.is("local", x.register(4, 1, 0), 2);
        DUE.is("local 401", x.register(4, 1, 1), 401);
        Scenes.bring(x, 4, 1, 3, 2);
        DUE.is("far", x.register(3, 2, 0), 3);
        DUE.is("far 401", x.register(3, 2, 1), 401);
        int[][] wrong = {{-1, 0, 0}, {5, 0, 0}, {4, -1, 0}, {4, 6, 0}, {4, 1, -1}, {4, 1, 2}, {4, 1, 3},
            {Scenes.MOST, 0, 0}, {4, Scenes.MOST, 0}, {4, 1, Scenes.MOST}, {4, 1, Scenes.LEAST}};
        for (int[] w : wrong) {
            DUE.is("register of wrong " + w[0] + " " + w[1] + " " + w[2], x.register(w[0], w[1], w[2]), -1);
        }
    }

    private static void fieldAnswers() {
        FarHeaps x = new FarHeaps(2);
        x.make(1, 0, 1);
        x.make(1, 1, 12);
        x.set(1, 1, 11, 0);
        x.set(1, 0, 0, 1);
        DUE.is("kind in the last field", x.field(1, 1, 11, 0), 2);
        DUE.is("the last field", x.field(1, 1, 11, 1), 100);
        DUE.is("object 0's field", x.field(1, 0, 0, 1), 101);
        int[][] wrong = {{-1, 0, 0, 0}, {2, 0, 0, 0}, {0, 0, 0, 0}, {1, -1, 0, 0}, {1, 2, 0, 0}, {1, 24, 0, 0}, {1, 0, -1, 0},
            {1, 0, 1, 0}, {1, 1, 12, 0}, {1, 0, 0, -1}, {1, 0, 0, 2}, {Scenes.MOST, 0, 0, 0}, {1, Scenes.MOST, 0, 0},
            {1, 0, Scenes.MOST, 0}, {1, 0, 0, Scenes.MOST}, {1, Scenes.LEAST, 0, 0}};
        for (int[] w : wrong) {
            DUE.is("field of wrong " + w[0] + " " + w[1] + " " + w[2] + " " + w[3], x.field(w[0], w[1], w[2], w[3]), -1);
        }
        x.drop(1, 0);
        x.drop(1, 1);
        x.collect(1);
        DUE.is("field of an object that went", x.field(1, 1, 11, 0), -1);
    }

    private static void cellAnswers() {
        FarHeaps x = new FarHeaps(2);
        x.make(1, 0, 2);
        x.make(1, 1, 0);
        x.make(1, 2, 1);
        int[] owners = {0, 0, 0, 1, 2, 2};
        int[] behind = {0, 1, 2, 0, 0, 1};
        for (int i = 0; i < 6; i++) {
            DUE.is("owner of cell " + i, x.cell(1, i, 0), owners[i]);
            DUE.is("place of cell " + i, x.cell(1, i, 1), behind[i]);
        }
        int[][] wrong = {{1, 6, 0}, {1, -1, 0}, {1, 160, 0}, {0, 0, 0}, {-1, 0, 0}, {2, 0, 0}, {1, 0, 2}, {1, 0, -1},
            {1, Scenes.MOST, 0}, {1, Scenes.LEAST, 0}, {Scenes.MOST, 0, 0}, {1, 0, Scenes.MOST}};
        for (int[] w : wrong) {
            DUE.is("cell of wrong " + w[0] + " " + w[1] + " " + w[2], x.cell(w[0], w[1], w[2]), -1);
        }
        x.drop(1, 0);
        DUE.is("what is not held has its cells till collecting", x.cell(1, 2, 0), 0);
        x.collect(1);
        DUE.is("cell 0 behind collecting", x.cell(1, 0, 0), 1);
        DUE.is("cell 2 behind collecting", x.cell(1, 2, 0), 2);
        DUE.is("its place", x.cell(1, 2, 1), 1);
        DUE.is("cell 3 is not below top", x.cell(1, 3, 0), -1);
    }
}
