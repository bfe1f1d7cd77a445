import java.util.Arrays;

/**
 * Heaps of several nodes that hold one another's objects by weights.
 *
 * An OBJECT has one id among all NODES, its NODE times 24 and its number, so that rows can be kept
 * by ids, and so that going up by ids is going "by NODES, then numbers". Everything that a call
 * needs is made in the constructors: no call makes an object.
 */
public final class FarHeaps {

    public static final int NONE = -1;

    private static final int REFUSED = -2;

    private static final int MOST_NODES = 5;
    private static final int MOST_OBJECTS = 24;
    private static final int MOST_FIELDS = 12;
    private static final int REGISTERS = 6;
    private static final int CELLS = 160;
    private static final int MOST_IMPORTS = 30;
    private static final int MOST_MESSAGES = 60;
    private static final int MOST_DRAINED = 1000;
    private static final int NEW_WEIGHT = 64;

    private static final int IDS = MOST_NODES * MOST_OBJECTS;
    private static final int SLOTS = REGISTERS + MOST_OBJECTS * MOST_FIELDS;

    /** Far above what any run needs: each turn but the last one ends a MESSAGE, OBJECT or IMPORT. */
    private static final int MOST_TURNS = 1000000;

    private static final int NOTHING = 0;
    private static final int INT = 1;
    private static final int LOCAL = 2;
    private static final int FAR = 3;

    private static final int REF = 1;
    private static final int DEC = 2;
    private static final int ASK = 3;
    private static final int GRANT = 4;

    private final Node[] nodes;
    private final Post post;
    private final Marks marks;
    private final Trial trials;

    public FarHeaps(int n) {
        nodes = new Node[Math.max(1, Math.min(MOST_NODES, n))];
        for (int i = 0; i < nodes.length; i++) {
            nodes[i] = new Node(i);
        }
        post = new Post();
        marks = new Marks();
        trials = new Trial();
    }

    public int make(int n, int register, int s) {
        if (!isNode(n) || !isRegister(register) || s < 0 || s > MOST_FIELDS) {
            return NONE;
        }
        Node node = nodes[n];
        int k = node.freeNumber();
        if (k == NONE) {
            return NONE;
        }
        if (!node.hasRoom(s)) {
            return REFUSED;
        }
        node.lay(k, s);
        node.fill(register, LOCAL, idOf(n, k));
        return k;
    }

    public boolean set(int n, int a, int f, int b) {
        int slot = slotBehind(n, a, f);
        if (slot == NONE || !isRegister(b)) {
            return false;
        }
        nodes[n].copy(b, slot);
        return true;
    }

    public boolean get(int n, int a, int f, int b) {
        int slot = slotBehind(n, a, f);
        if (slot == NONE || !isRegister(b)) {
            return false;
        }
        nodes[n].copy(slot, b);
        return true;
    }

    public boolean number(int n, int a, int v) {
        if (!isNode(n) || !isRegister(a)) {
            return false;
        }
        nodes[n].fill(a, INT, v);
        return true;
    }

    public boolean drop(int n, int a) {
        if (!isNode(n) || !isRegister(a)) {
            return false;
        }
        nodes[n].empty(a);
        return true;
    }

    public int send(int n, int a, int m, int b) {
        if (!isNode(n) || !isRegister(a) || !isNode(m) || !isRegister(b) || m == n) {
            return NONE;
        }
        Node node = nodes[n];
        if (!node.holdsObject(a) || post.isFull()) {
            return NONE;
        }
        int id = node.contents[a];
        int weight = node.splitOff(id);
        if (weight == 0) {
            return REFUSED;
        }
        post.put(REF, n, m, id, weight, b);
        return weight;
    }

    public boolean ask(int n, int a) {
        if (!isNode(n) || !isRegister(a) || nodes[n].kinds[a] != FAR || post.isFull()) {
            return false;
        }
        int id = nodes[n].contents[a];
        post.put(ASK, n, nodeOf(id), id, 0, NONE);
        return true;
    }

    public int come(int m, int n) {
        if (!isNode(m) || !isNode(n) || m == n) {
            return NONE;
        }
        Letter letter = post.find(m, n, 0);
        if (letter == null) {
            return 0;
        }
        if (letter.kind == REF && !nodes[n].canTake(letter.id)) {
            return REFUSED;
        }
        // The removed letter is used again by the next one, so all is read ahead of what it causes.
        int kind = letter.kind;
        int id = letter.id;
        int weight = letter.weight;
        int register = letter.register;
        post.remove(letter);
        if (kind == REF) {
            nodes[n].takeRef(id, weight, register);
        } else if (kind == DEC) {
            nodes[n].changeTotal(id, -weight);
        } else if (kind == ASK) {
            nodes[n].changeTotal(id, NEW_WEIGHT);
            post.put(GRANT, n, m, id, NEW_WEIGHT, NONE);
        } else {
            takeGrant(n, id, weight);
        }
        return kind;
    }

    public int drain(int k) {
        if (k < 0 || k > MOST_DRAINED) {
            return NONE;
        }
        int came = 0;
        while (came < k && bringNext()) {
            came++;
        }
        return came;
    }

    public int collect(int n) {
        if (!isNode(n)) {
            return NONE;
        }
        Node node = nodes[n];
        node.markLive(marks);
        if (node.countUnmarkedImports(marks) + post.size > MOST_MESSAGES) {
            return REFUSED;
        }
        node.giveBackUnmarked(marks, post);
        return node.sweep(marks);
    }

    public int trial(int n, int k) {
        if (!isObject(n, k) || nodes[n].totals[k] == 0 || post.size > 0) {
            return NONE;
        }
        return trials.run(nodes, idOf(n, k), post);
    }

    public int settle() {
        int gone = 0;
        for (int turn = 0; turn < MOST_TURNS; turn++) {
            int came = drain(MOST_DRAINED);
            int stayed = post.size;
            int went = 0;
            for (int n = 0; n < nodes.length; n++) {
                int some = collect(n);
                if (some < 0) {
                    return REFUSED;
                }
                went += some;
            }
            gone += went;
            if (came == 0 && post.size == stayed && went == 0) {
                break;
            }
        }
        return post.size > 0 ? REFUSED : gone;
    }

    public int pass() {
        int gone = 0;
        boolean again = true;
        for (int turn = 0; again && turn < MOST_TURNS; turn++) {
            int went = settle();
            if (went < 0) {
                return REFUSED;
            }
            gone += went;
            again = false;
            for (int id = 0; id < IDS && !again; id++) {
                again = trial(nodeOf(id), numberOf(id)) > 0;
            }
        }
        return gone;
    }

    public int register(int n, int a, int what) {
        if (!isNode(n) || !isRegister(a)) {
            return NONE;
        }
        return nodes[n].tell(a, what);
    }

    public int field(int n, int k, int f, int what) {
        if (!isNode(n) || !nodes[n].hasField(k, f)) {
            return NONE;
        }
        return nodes[n].tell(fieldSlot(k, f), what);
    }

    public int cell(int n, int i, int what) {
        if (!isNode(n) || what < 0 || what > 1) {
            return NONE;
        }
        int k = nodes[n].objectAt(i);
        if (k == NONE) {
            return NONE;
        }
        return what == 0 ? k : i - nodes[n].addresses[k];
    }

    public int object(int n, int k, int what) {
        if (!isObject(n, k)) {
            return REFUSED;
        }
        switch (what) {
            case 0:
                return nodes[n].addresses[k];
            case 1:
                return nodes[n].sizes[k];
            case 2:
                return nodes[n].totals[k];
            case 3:
                markHeld();
                return marks.has(idOf(n, k)) ? 1 : 0;
            default:
                return REFUSED;
        }
    }

    public int weight(int n, int m, int k) {
        if (!isNode(n) || !isNode(m) || k < 0 || k >= MOST_OBJECTS) {
            return 0;
        }
        return nodes[n].weightOfImport(idOf(m, k));
    }

    public int message(int m, int n, int i, int what) {
        Letter letter = post.find(m, n, i);
        if (letter == null) {
            return NONE;
        }
        switch (what) {
            case 0:
                return letter.kind;
            case 1:
                return nameOf(letter.id);
            case 2:
                return letter.weight;
            case 3:
                return letter.register;
            default:
                return NONE;
        }
    }

    public int count(int n, int what) {
        if ((n != NONE && !isNode(n)) || what < 0 || what > 6) {
            return NONE;
        }
        if (what == 3) {
            markHeld();
        }
        int sum = 0;
        for (int i = 0; i < nodes.length; i++) {
            if (n == NONE || n == i) {
                sum += countOf(nodes[i], what);
            }
        }
        return sum;
    }

    public boolean isEven() {
        for (int n = 0; n < nodes.length; n++) {
            for (int k = 0; k < MOST_OBJECTS; k++) {
                int total = nodes[n].totals[k];
                if (total > 0 && total != weightsOf(idOf(n, k))) {
                    return false;
                }
            }
        }
        return true;
    }

    private static int idOf(int n, int k) {
        return n * MOST_OBJECTS + k;
    }

    /** An id that stood in a row is looked at again where it is used as an index. */
    private static boolean isId(int id) {
        return id >= 0 && id < IDS;
    }

    private static int nodeOf(int id) {
        return id / MOST_OBJECTS;
    }

    private static int numberOf(int id) {
        return id % MOST_OBJECTS;
    }

    /** The OBJECT as answers tell it. */
    private static int nameOf(int id) {
        return 100 * nodeOf(id) + numberOf(id);
    }

    private static int fieldSlot(int k, int f) {
        return REGISTERS + k * MOST_FIELDS + f;
    }

    private static boolean isRegister(int a) {
        return a >= 0 && a < REGISTERS;
    }

    private boolean isNode(int n) {
        return n >= 0 && n < nodes.length;
    }

    private boolean isObject(int n, int k) {
        return isNode(n) && nodes[n].hasObject(k);
    }

    /** The slot of FIELD f of the LOCAL OBJECT that REGISTER a holds, NONE if there is none. */
    private int slotBehind(int n, int a, int f) {
        if (!isNode(n) || !isRegister(a) || nodes[n].kinds[a] != LOCAL) {
            return NONE;
        }
        int k = numberOf(nodes[n].contents[a]);
        return nodes[n].hasField(k, f) ? fieldSlot(k, f) : NONE;
    }

    /** A GRANT may find its IMPORT given back; the WEIGHT must not be lost then. */
    private void takeGrant(int n, int id, int weight) {
        if (nodes[n].weightOfImport(id) > 0) {
            nodes[n].changeWeight(id, weight);
        } else {
            post.put(DEC, n, nodeOf(id), id, weight, NONE);
        }
    }

    /** Whether a MESSAGE came; a pair whose first MESSAGE stays is passed over. */
    private boolean bringNext() {
        for (int m = 0; m < nodes.length; m++) {
            for (int n = 0; n < nodes.length; n++) {
                if (come(m, n) > 0) {
                    return true;
                }
            }
        }
        return false;
    }

    private void markHeld() {
        marks.clear();
        for (int n = 0; n < nodes.length; n++) {
            nodes[n].markRegisters(marks);
        }
        post.markRefs(marks);
        marks.spread(nodes);
    }

    private int countOf(Node node, int what) {
        switch (what) {
            case 0:
                return node.objects;
            case 1:
                return node.countExports();
            case 2:
                return node.imports;
            case 3:
                return node.countUnmarkedObjects(marks);
            case 4:
                return post.countTo(node.index);
            case 5:
                return node.top;
            default:
                return node.moved;
        }
    }

    private int weightsOf(int id) {
        int sum = post.weightOf(id);
        for (int n = 0; n < nodes.length; n++) {
            sum += nodes[n].weightOfImport(id);
        }
        return sum;
    }

    /** A set of ids that remembers in which order they were added, to go on from each one once. */
    private static final class Marks {

        private final boolean[] marked = new boolean[IDS];
        private final int[] row = new int[IDS];
        private int size;
        private int spreadSoFar;

        private void clear() {
            for (int id = 0; id < IDS; id++) {
                marked[id] = false;
            }
            size = 0;
            spreadSoFar = 0;
        }

        private boolean has(int id) {
            return id >= 0 && id < IDS && marked[id];
        }

        private void add(int id) {
            if (id >= 0 && id < IDS && !marked[id] && size < IDS) {
                marked[id] = true;
                row[size] = id;
                size++;
            }
        }

        /** Adds what FIELDS of the OBJECTS in it hold, in whatever NODE, till nothing is new. */
        private void spread(Node[] nodes) {
            for (int i = spreadSoFar; i < size && i < IDS; i++) {
                int n = nodeOf(row[i]);
                if (n >= 0 && n < nodes.length) {
                    nodes[n].markFields(numberOf(row[i]), this);
                }
            }
            spreadSoFar = size;
        }
    }

    /** A MESSAGE; its WEIGHT is 0 for an ASK, its REGISTER NONE for all but a REF. */
    private static final class Letter {

        private int kind;
        private int from;
        private int to;
        private int id;
        private int weight;
        private int register;
    }

    /** The MESSAGES UNDER WAY, in the order in which they were sent. */
    private static final class Post {

        private final Letter[] letters;
        private int size;

        private Post() {
            letters = new Letter[MOST_MESSAGES];
            for (int i = 0; i < MOST_MESSAGES; i++) {
                letters[i] = new Letter();
            }
        }

        private boolean isFull() {
            return size >= MOST_MESSAGES;
        }

        private void put(int kind, int from, int to, int id, int weight, int register) {
            if (isFull()) {
                return;
            }
            Letter letter = letters[size];
            letter.kind = kind;
            letter.from = from;
            letter.to = to;
            letter.id = id;
            letter.weight = weight;
            letter.register = register;
            size++;
        }

        /** The letter with i others of the same pair ahead of it, null if there is none. */
        private Letter find(int from, int to, int i) {
            int ahead = 0;
            for (int at = 0; at < size; at++) {
                Letter letter = letters[at];
                if (letter.from == from && letter.to == to) {
                    if (ahead == i) {
                        return letter;
                    }
                    ahead++;
                }
            }
            return null;
        }

        /** The letter goes behind all others, where put finds it again. */
        private void remove(Letter letter) {
            boolean found = false;
            for (int at = 0; at < size; at++) {
                found = found || letters[at] == letter;
                if (found && at + 1 < size) {
                    letters[at] = letters[at + 1];
                }
            }
            if (found) {
                size--;
                letters[size] = letter;
            }
        }

        private void markRefs(Marks marks) {
            for (int at = 0; at < size; at++) {
                if (letters[at].kind == REF) {
                    marks.add(letters[at].id);
                }
            }
        }

        private int countTo(int n) {
            int sum = 0;
            for (int at = 0; at < size; at++) {
                if (letters[at].to == n) {
                    sum++;
                }
            }
            return sum;
        }

        private int weightOf(int id) {
            int sum = 0;
            for (int at = 0; at < size; at++) {
                if (letters[at].id == id) {
                    sum += letters[at].weight;
                }
            }
            return sum;
        }
    }

    /**
     * A NODE. REGISTERS and FIELDS are slots of one row, the REGISTERS ahead, so that a VALUE is
     * copied and told alike wherever it stands. The content of a slot is the INT, or the OBJECT's id.
     */
    private static final class Node {

        /** The size of an OBJECT that is not there: below all sizes, so that it has no FIELD. */
        private static final int FREE = -1;

        private final int index;
        private final int[] kinds = new int[SLOTS];
        private final int[] contents = new int[SLOTS];
        private final int[] sizes = new int[MOST_OBJECTS];
        private final int[] addresses = new int[MOST_OBJECTS];
        private final int[] totals = new int[MOST_OBJECTS];
        private final int[] weights = new int[IDS];
        /** The numbers by ADDRESSES: a new OBJECT lies behind all others, and sweeping keeps the order. */
        private final int[] order = new int[MOST_OBJECTS];
        private int objects;
        private int imports;
        private int top;
        private int moved;

        private Node(int index) {
            this.index = index;
            Arrays.fill(sizes, FREE);
        }

        private boolean hasObject(int k) {
            return k >= 0 && k < MOST_OBJECTS && sizes[k] != FREE;
        }

        private boolean hasField(int k, int f) {
            return hasObject(k) && f >= 0 && f < sizes[k];
        }

        /** The least number for a new OBJECT, NONE if there is none. */
        private int freeNumber() {
            for (int k = 0; k < MOST_OBJECTS && objects < MOST_OBJECTS; k++) {
                if (sizes[k] == FREE) {
                    return k;
                }
            }
            return NONE;
        }

        private boolean hasRoom(int s) {
            return top + s + 1 <= CELLS;
        }

        private void lay(int k, int s) {
            sizes[k] = s;
            addresses[k] = top;
            order[objects] = k;
            objects++;
            top += s + 1;
        }

        /** The number of the OBJECT that has this CELL, NONE if none has it. */
        private int objectAt(int cell) {
            for (int k = 0; k < MOST_OBJECTS; k++) {
                if (hasObject(k) && cell >= addresses[k] && cell <= addresses[k] + sizes[k]) {
                    return k;
                }
            }
            return NONE;
        }

        private void fill(int slot, int kind, int content) {
            if (slot >= 0 && slot < SLOTS) {
                kinds[slot] = kind;
                contents[slot] = content;
            }
        }

        private void empty(int slot) {
            fill(slot, NOTHING, 0);
        }

        private void copy(int from, int to) {
            fill(to, kinds[from], contents[from]);
        }

        private boolean holdsObject(int slot) {
            return kinds[slot] == LOCAL || kinds[slot] == FAR;
        }

        private int tell(int slot, int what) {
            if (what == 0) {
                return kinds[slot];
            }
            if (what == 1) {
                return holdsObject(slot) ? nameOf(contents[slot]) : contents[slot];
            }
            return NONE;
        }

        private void emptyFields(int k) {
            for (int f = 0; f < sizes[k]; f++) {
                empty(fieldSlot(k, f));
            }
        }

        private void changeTotal(int id, int by) {
            if (isId(id)) {
                totals[numberOf(id)] += by;
            }
        }

        /** 0 if this NODE has no such IMPORT. */
        private int weightOfImport(int id) {
            return isId(id) ? weights[id] : 0;
        }

        private void changeWeight(int id, int by) {
            if (!isId(id)) {
                return;
            }
            int before = weights[id];
            weights[id] = before + by;
            if (before == 0 && by != 0) {
                imports++;
            } else if (before != 0 && before + by == 0) {
                imports--;
            }
        }

        /** The WEIGHT for a REF of it, taken from what this NODE has; 0 if it is DRY. */
        private int splitOff(int id) {
            if (nodeOf(id) == index) {
                changeTotal(id, NEW_WEIGHT);
                return NEW_WEIGHT;
            }
            int half = weightOfImport(id) / 2;
            if (half > 0) {
                changeWeight(id, -half);
            }
            return half;
        }

        private boolean canTake(int id) {
            return nodeOf(id) == index || weightOfImport(id) > 0 || imports < MOST_IMPORTS;
        }

        private void takeRef(int id, int weight, int register) {
            if (nodeOf(id) == index) {
                fill(register, LOCAL, id);
                changeTotal(id, -weight);
            } else {
                fill(register, FAR, id);
                changeWeight(id, weight);
            }
        }

        private void giveBack(int id, Post post) {
            int weight = weightOfImport(id);
            post.put(DEC, index, nodeOf(id), id, weight, NONE);
            changeWeight(id, -weight);
        }

        private void markRegisters(Marks marks) {
            for (int a = 0; a < REGISTERS; a++) {
                if (holdsObject(a)) {
                    marks.add(contents[a]);
                }
            }
        }

        private void markFields(int k, Marks marks) {
            for (int f = 0; f < sizes[k]; f++) {
                int slot = fieldSlot(k, f);
                if (holdsObject(slot)) {
                    marks.add(contents[slot]);
                }
            }
        }

        /** Marks OBJECTS of this NODE and its IMPORTS; from IMPORTS it goes no further. */
        private void markLive(Marks marks) {
            marks.clear();
            markRegisters(marks);
            for (int k = 0; k < MOST_OBJECTS; k++) {
                if (totals[k] > 0) {
                    marks.add(idOf(index, k));
                }
            }
            for (int i = 0; i < marks.size && i < IDS; i++) {
                if (nodeOf(marks.row[i]) == index) {
                    markFields(numberOf(marks.row[i]), marks);
                }
            }
        }

        private int countUnmarkedImports(Marks marks) {
            int sum = 0;
            for (int id = 0; id < IDS; id++) {
                if (weights[id] > 0 && !marks.has(id)) {
                    sum++;
                }
            }
            return sum;
        }

        private void giveBackUnmarked(Marks marks, Post post) {
            for (int id = 0; id < IDS; id++) {
                if (weights[id] > 0 && !marks.has(id)) {
                    giveBack(id, post);
                }
            }
        }

        /** Lays the marked OBJECTS together: how many others went. */
        private int sweep(Marks marks) {
            int before = objects;
            int kept = 0;
            int cell = 0;
            for (int i = 0; i < before; i++) {
                int k = order[i];
                if (marks.has(idOf(index, k))) {
                    moveTo(k, cell);
                    cell += sizes[k] + 1;
                    order[kept] = k;
                    kept++;
                } else {
                    emptyFields(k);
                    sizes[k] = FREE;
                }
            }
            objects = kept;
            top = cell;
            return before - kept;
        }

        private void moveTo(int k, int cell) {
            if (addresses[k] != cell) {
                addresses[k] = cell;
                moved += sizes[k] + 1;
            }
        }

        private int countExports() {
            int sum = 0;
            for (int k = 0; k < MOST_OBJECTS; k++) {
                if (totals[k] > 0) {
                    sum++;
                }
            }
            return sum;
        }

        private int countUnmarkedObjects(Marks marks) {
            int sum = 0;
            for (int k = 0; k < MOST_OBJECTS; k++) {
                if (hasObject(k) && !marks.has(idOf(index, k))) {
                    sum++;
                }
            }
            return sum;
        }
    }

    /** The rows that TRIALS work in; nothing of them lasts from one TRIAL to the next. */
    private static final class Trial {

        private static final int NOT_HELD = 0;
        private static final int HELD_WITHIN = 1;
        private static final int HELD_ELSEWHERE = 2;

        private final Marks gray = new Marks();
        private final Marks without = new Marks();
        private final int[] holders = new int[IDS];
        private final int[] innerWeights = new int[IDS];

        /** How many OBJECTS were let go, 0 if it does not SUCCEED. */
        private int run(Node[] nodes, int id, Post post) {
            gray.clear();
            gray.add(id);
            gray.spread(nodes);
            findWithout(nodes, id);
            if (without.has(id) || countInner(nodes) + post.size > MOST_MESSAGES) {
                return 0;
            }
            for (int n = 0; n < nodes.length; n++) {
                letGo(nodes[n], post);
            }
            return gray.size - without.size;
        }

        /** Ends early once id is WITHOUT, for the TRIAL can't SUCCEED any more. */
        private void findWithout(Node[] nodes, int id) {
            without.clear();
            for (int n = 0; n < nodes.length; n++) {
                markHeldFromOutside(nodes[n]);
            }
            for (int round = 0; round <= IDS && !without.has(id); round++) {
                without.spread(nodes);
                sumInnerWeights(nodes);
                if (!markUncovered(nodes)) {
                    return;
                }
            }
        }

        private void markHeldFromOutside(Node node) {
            for (int a = 0; a < REGISTERS; a++) {
                markLocalGray(node, a);
            }
            for (int k = 0; k < MOST_OBJECTS; k++) {
                if (!gray.has(idOf(node.index, k))) {
                    for (int f = 0; f < node.sizes[k]; f++) {
                        markLocalGray(node, fieldSlot(k, f));
                    }
                }
            }
        }

        private void markLocalGray(Node node, int slot) {
            if (node.kinds[slot] == LOCAL && gray.has(node.contents[slot])) {
                without.add(node.contents[slot]);
            }
        }

        /** Whether a GRAY OBJECT came to be WITHOUT, since INNER IMPORTS don't make up its TOTAL. */
        private boolean markUncovered(Node[] nodes) {
            int before = without.size;
            for (int n = 0; n < nodes.length; n++) {
                for (int k = 0; k < MOST_OBJECTS; k++) {
                    int id = idOf(n, k);
                    int total = nodes[n].totals[k];
                    if (gray.has(id) && total > 0 && total != innerWeights[id]) {
                        without.add(id);
                    }
                }
            }
            return without.size > before;
        }

        private void sumInnerWeights(Node[] nodes) {
            Arrays.fill(innerWeights, 0);
            for (int n = 0; n < nodes.length; n++) {
                findHolders(nodes[n]);
                for (int id = 0; id < IDS; id++) {
                    if (holders[id] == HELD_WITHIN) {
                        innerWeights[id] += nodes[n].weights[id];
                    }
                }
            }
        }

        private int countInner(Node[] nodes) {
            int sum = 0;
            for (int n = 0; n < nodes.length; n++) {
                findHolders(nodes[n]);
                for (int id = 0; id < IDS; id++) {
                    if (holders[id] == HELD_WITHIN) {
                        sum++;
                    }
                }
            }
            return sum;
        }

        /** INNER are the NODE's IMPORTS that are HELD_WITHIN; what a GRAY OBJECT holds is GRAY. */
        private void findHolders(Node node) {
            Arrays.fill(holders, NOT_HELD);
            for (int a = 0; a < REGISTERS; a++) {
                noteHolder(node, a, HELD_ELSEWHERE);
            }
            for (int k = 0; k < MOST_OBJECTS; k++) {
                int how = isLetGo(node, k) ? HELD_WITHIN : HELD_ELSEWHERE;
                for (int f = 0; f < node.sizes[k]; f++) {
                    noteHolder(node, fieldSlot(k, f), how);
                }
            }
        }

        private void noteHolder(Node node, int slot, int how) {
            int id = node.contents[slot];
            if (node.kinds[slot] == FAR && isId(id)) {
                holders[id] = Math.max(holders[id], how);
            }
        }

        private boolean isLetGo(Node node, int k) {
            int id = idOf(node.index, k);
            return gray.has(id) && !without.has(id);
        }

        private void letGo(Node node, Post post) {
            findHolders(node);
            for (int id = 0; id < IDS; id++) {
                if (holders[id] == HELD_WITHIN) {
                    node.giveBack(id, post);
                }
            }
            for (int k = 0; k < MOST_OBJECTS; k++) {
                if (isLetGo(node, k)) {
                    node.emptyFields(k);
                }
            }
        }
    }
}
