import java.util.Random;

/** Runs of 512 calls, drawn from fixed seeds, on FarHeaps and on the plain model side by side. */
public final class ModelTest {

    private static final int RUNS = 120;
    private static final int CALLS = 512;

    /** How often each call is drawn, by moods: building, flooding, forgetting, asking for rings, anything. */
    private static final int[][] MOODS = {
        // make set get number drop send ask come drain collect trial settle pass
        {14, 20, 6, 1, 2, 14, 2, 14, 6, 1, 0, 0, 0},
        {10, 4, 2, 0, 1, 60, 12, 2, 0, 1, 0, 0, 0},
        {2, 4, 6, 1, 30, 4, 2, 6, 6, 10, 6, 2, 1},
        {4, 24, 2, 0, 8, 16, 0, 4, 16, 2, 6, 1, 0},
        {6, 10, 10, 4, 10, 10, 6, 10, 6, 6, 6, 2, 1},
        {30, 12, 2, 0, 0, 30, 0, 30, 10, 0, 0, 0, 0},
    };

    private final Due due = new Due();
    private int trialsThatSucceeded;
    private int refusals;

    public static void main(String[] args) {
        ModelTest test = new ModelTest();
        for (int run = 0; run < RUNS && test.due.isClean(); run++) {
            test.run(run);
            test.ringRun(run);
            test.crowdRun(run);
        }
        test.due.yes("some trials succeeded", test.trialsThatSucceeded > 200);
        test.due.yes("some calls were refused", test.refusals > 200);
        test.due.end();
    }

    private void run(int seed) {
        Random random = new Random(seed);
        int nodes = seed % 7 == 0 ? 5 : 2 + random.nextInt(3);
        FarHeaps x = new FarHeaps(nodes);
        PlainModel y = new PlainModel(nodes);
        int mood = 0;
        for (int call = 0; call < CALLS && due.isClean(); call++) {
            if (call % 32 == 0) {
                mood = random.nextInt(MOODS.length);
            }
            String told = "run " + seed + " call " + call + ": ";
            step(told, random, nodes, draw(random, MOODS[mood]), x, y);
            if (call % 16 == 15) {
                compare(told, nodes, x, y);
            }
        }
        due.is("run " + seed + ": pass() at last", x.pass(), y.pass());
        compare("run " + seed + " at last: ", nodes, x, y);
    }

    /** Links between OBJECTS of all NODES at random, then all but few REGISTERS are dropped. */
    private void ringRun(int seed) {
        Random random = new Random(1000 + seed);
        int nodes = 2 + random.nextInt(4);
        FarHeaps x = new FarHeaps(nodes);
        PlainModel y = new PlainModel(nodes);
        for (int round = 0; round < 6 && due.isClean(); round++) {
            String told = "ring run " + seed + " round " + round + ": ";
            for (int i = 0; i < 3 * nodes; i++) {
                int n = i % nodes;
                int a = i / nodes;
                int s = 1 + random.nextInt(3);
                same(told + "make(" + n + ", " + a + ", " + s + ")", x.make(n, a, s), y.make(n, a, s));
            }
            int links = 4 * nodes + random.nextInt(12);
            for (int i = 0; i < links; i++) {
                link(told, random, nodes, x, y);
            }
            int keep = random.nextInt(3) == 0 ? 12 : 60;
            for (int i = 0; i < nodes * 6; i++) {
                if (random.nextInt(keep) > 0) {
                    same(told + "drop(" + i / 6 + ", " + i % 6 + ")", x.drop(i / 6, i % 6), y.drop(i / 6, i % 6));
                }
            }
            if (random.nextInt(4) > 0) {
                same(told + "settle()", x.settle(), y.settle());
            }
            for (int i = 0; i < 4; i++) {
                int n = random.nextInt(nodes);
                tryOn(told, x, y, n, anExport(x, n, random.nextInt(24)));
            }
            compare(told, nodes, x, y);
            if (round % 2 == 1) {
                same(told + "pass()", x.pass(), y.pass());
                compare(told, nodes, x, y);
            }
        }
    }

    /** FIELDS of OBJECTS of one NODE come to hold OBJECTS of another, or of the same. */
    private void link(String told, Random random, int nodes, FarHeaps x, PlainModel y) {
        int n = random.nextInt(nodes);
        int m = random.nextInt(nodes);
        int a = random.nextInt(3);
        int b = random.nextInt(3);
        int f = random.nextInt(3);
        int from = a;
        if (n != m) {
            from = 3 + random.nextInt(3);
            same(told + "send(" + n + ", " + a + ", " + m + ", " + from + ")", x.send(n, a, m, from), y.send(n, a, m, from));
            same(told + "drain(1000)", x.drain(1000), y.drain(1000));
        }
        same(told + "set(" + m + ", " + b + ", " + f + ", " + from + ")", x.set(m, b, f, from), y.set(m, b, f, from));
    }

    /** Many IMPORTS and MESSAGES for one NODE, so that the limits are met. */
    private void crowdRun(int seed) {
        Random random = new Random(2000 + seed);
        int nodes = 3 + random.nextInt(3);
        FarHeaps x = new FarHeaps(nodes);
        PlainModel y = new PlainModel(nodes);
        int to = random.nextInt(nodes);
        for (int a = 0; a < 4; a++) {
            same("make", x.make(to, a, 12), y.make(to, a, 12));
        }
        int[] crowd = {16, 24, 0, 0, 0, 30, 2, 24, 0, 0, 0, 0, 0};
        int[] quiet = {4, 8, 0, 0, 2, 30, 2, 4, 2, 6, 1, 4, 1};
        for (int call = 0; call < 450 && due.isClean(); call++) {
            String told = "crowd run " + seed + " call " + call + ": ";
            int n = (to + 1 + random.nextInt(nodes - 1)) % nodes;
            int which = draw(random, call % 225 < 180 ? crowd : quiet);
            if (which == 0) {
                same(told + "make(" + n + ", 0, 0)", x.make(n, 0, 0), y.make(n, 0, 0));
            } else if (which == 1) {
                int a = random.nextInt(4);
                int f = random.nextInt(12);
                same(told + "set(" + to + ", " + a + ", " + f + ", 4)", x.set(to, a, f, 4), y.set(to, a, f, 4));
            } else if (which == 5) {
                same(told + "send(" + n + ", 0, " + to + ", 4)", x.send(n, 0, to, 4), y.send(n, 0, to, 4));
            } else if (which == 7) {
                same(told + "come(" + n + ", " + to + ")", x.come(n, to), y.come(n, to));
            } else {
                step(told, random, nodes, which, x, y);
            }
            if (call % 32 == 31) {
                compare(told, nodes, x, y);
            }
        }
    }

    private static int draw(Random random, int[] mood) {
        int sum = 0;
        for (int often : mood) {
            sum += often;
        }
        int at = random.nextInt(sum);
        int which = 0;
        while (at >= mood[which]) {
            at -= mood[which];
            which++;
        }
        return which;
    }

    /** Mostly below the limit, now and then just beside it. */
    private static int pick(Random random, int limit) {
        return random.nextInt(60) == 0 ? (random.nextBoolean() ? -1 : limit) : random.nextInt(limit);
    }

    private void step(String told, Random random, int nodes, int which, FarHeaps x, PlainModel y) {
        int n = pick(random, nodes);
        int m = random.nextInt(8) == 0 ? pick(random, nodes) : (n + 1 + random.nextInt(nodes - 1)) % nodes;
        int a = pick(random, 6);
        int b = pick(random, 6);
        int f = pick(random, random.nextInt(3) == 0 ? 12 : 3);
        int k = pick(random, 24);
        int v = random.nextInt();
        switch (which) {
            case 0 -> same(told + "make(" + n + ", " + a + ", " + f + ")", x.make(n, a, f), y.make(n, a, f));
            case 1 -> same(told + "set(" + n + ", " + a + ", " + f + ", " + b + ")", x.set(n, a, f, b), y.set(n, a, f, b));
            case 2 -> same(told + "get(" + n + ", " + a + ", " + f + ", " + b + ")", x.get(n, a, f, b), y.get(n, a, f, b));
            case 3 -> same(told + "number(" + n + ", " + a + ", " + v + ")", x.number(n, a, v), y.number(n, a, v));
            case 4 -> same(told + "drop(" + n + ", " + a + ")", x.drop(n, a), y.drop(n, a));
            case 5 -> {
                // Now and then the same one till it is DRY.
                int times = random.nextInt(10) == 0 ? 8 : 1;
                for (int i = 0; i < times; i++) {
                    same(told + "send(" + n + ", " + a + ", " + m + ", " + b + ")", x.send(n, a, m, b), y.send(n, a, m, b));
                }
            }
            case 6 -> same(told + "ask(" + n + ", " + a + ")", x.ask(n, a), y.ask(n, a));
            case 7 -> same(told + "come(" + m + ", " + n + ")", x.come(m, n), y.come(m, n));
            case 8 -> same(told + "drain(" + k + ")", x.drain(k), y.drain(k));
            case 9 -> same(told + "collect(" + n + ")", x.collect(n), y.collect(n));
            case 10 -> tryOn(told, x, y, n, anExport(x, n, k));
            case 11 -> same(told + "settle()", x.settle(), y.settle());
            default -> same(told + "pass()", x.pass(), y.pass());
        }
    }

    /** A TRIAL of what is not exported tells little, so the next export is taken where there is one. */
    private static int anExport(FarHeaps x, int n, int k) {
        for (int i = 0; i < 24; i++) {
            if (x.object(n, (k + i) % 24, 2) > 0) {
                return (k + i) % 24;
            }
        }
        return k;
    }

    private void tryOn(String told, FarHeaps x, PlainModel y, int n, int k) {
        same(told + "drain(1000)", x.drain(1000), y.drain(1000));
        int got = x.trial(n, k);
        trialsThatSucceeded += got > 0 ? 1 : 0;
        same(told + "trial(" + n + ", " + k + ")", got, y.trial(n, k));
    }

    private void same(String call, int got, int want) {
        refusals += want == -2 ? 1 : 0;
        due.is(call, got, want);
    }

    private void same(String call, boolean got, boolean want) {
        due.is(call, got ? 1 : 0, want ? 1 : 0);
    }

    private void compare(String told, int nodes, FarHeaps x, PlainModel y) {
        same(told + "isEven()", x.isEven(), y.isEven());
        for (int n = -1; n <= nodes; n++) {
            for (int what = -1; what <= 7; what++) {
                due.is(told + "count(" + n + ", " + what + ")", x.count(n, what), y.count(n, what));
            }
            for (int what = -1; what <= 2; what++) {
                for (int a = -1; a <= 6; a++) {
                    due.is(told + "register(" + n + ", " + a + ", " + what + ")", x.register(n, a, what), y.register(n, a, what));
                }
                for (int i = -1; i <= 160; i++) {
                    due.is(told + "cell(" + n + ", " + i + ", " + what + ")", x.cell(n, i, what), y.cell(n, i, what));
                }
            }
            compareObjects(told, n, x, y);
            for (int m = -1; m <= nodes; m++) {
                comparePair(told, m, n, x, y);
            }
        }
    }

    private void compareObjects(String told, int n, FarHeaps x, PlainModel y) {
        for (int k = -1; k <= 24; k++) {
            for (int what = -1; what <= 4; what++) {
                due.is(told + "object(" + n + ", " + k + ", " + what + ")", x.object(n, k, what), y.object(n, k, what));
            }
            for (int f = -1; f <= 12; f++) {
                for (int what = 0; what <= 1; what++) {
                    due.is(told + "field(" + n + ", " + k + ", " + f + ", " + what + ")", x.field(n, k, f, what), y.field(n, k, f, what));
                }
            }
        }
    }

    private void comparePair(String told, int m, int n, FarHeaps x, PlainModel y) {
        for (int k = -1; k <= 24; k++) {
            due.is(told + "weight(" + n + ", " + m + ", " + k + ")", x.weight(n, m, k), y.weight(n, m, k));
        }
        for (int what = -1; what <= 4; what++) {
            int i = -1;
            int want;
            do {
                want = y.message(m, n, i, what);
                due.is(told + "message(" + m + ", " + n + ", " + i + ", " + what + ")", x.message(m, n, i, what), want);
                i++;
            } while (i < 61 && (i < 2 || y.message(m, n, i - 1, 0) != -1));
        }
    }
}
