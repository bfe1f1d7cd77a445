/** All that can be seen of an object, in one line, with few calls, for it is good for 512 alone. */
final class Sight {

    private final FarHeaps x;
    private final StringBuilder seen = new StringBuilder();
    private int nodes;

    private Sight(FarHeaps x) {
        this.x = x;
        while (nodes < 5 && x.count(nodes, 0) != -1) {
            nodes++;
        }
    }

    static String of(FarHeaps x) {
        Sight sight = new Sight(x);
        for (int n = 0; n < sight.nodes; n++) {
            sight.node(n);
            for (int m = 0; m < sight.nodes; m++) {
                sight.messages(m, n);
            }
        }
        return sight.seen.toString();
    }

    private void node(int n) {
        seen.append(" NODE ").append(n).append(" top ").append(x.count(n, 5)).append(" moved ").append(x.count(n, 6));
        for (int a = 0; a < 6; a++) {
            value(" r" + a, x.register(n, a, 0), x.register(n, a, 1));
        }
        int objects = x.count(n, 0);
        for (int k = 0; k < 24 && objects > 0; k++) {
            objects -= object(n, k);
        }
        int imports = x.count(n, 2);
        for (int i = 0; i < 24 * nodes && imports > 0; i++) {
            imports -= weight(n, i / 24, i % 24);
        }
    }

    private void value(String place, int kind, int content) {
        if (kind != 0 || content != 0) {
            seen.append(place).append(' ').append(kind).append(':').append(content);
        }
    }

    /** How many OBJECTS it found, 1 or 0. */
    private int object(int n, int k) {
        int size = x.object(n, k, 1);
        if (size == -2) {
            return 0;
        }
        seen.append(" object ").append(k).append(" of ").append(size).append(" at ").append(x.object(n, k, 0));
        seen.append(" total ").append(x.object(n, k, 2));
        for (int f = 0; f < size; f++) {
            value(" f" + f, x.field(n, k, f, 0), x.field(n, k, f, 1));
        }
        return 1;
    }

    /** How many IMPORTS it found, 1 or 0. */
    private int weight(int n, int m, int k) {
        int weight = m == n ? 0 : x.weight(n, m, k);
        if (weight == 0) {
            return 0;
        }
        seen.append(" weight of ").append(100 * m + k).append(' ').append(weight);
        return 1;
    }

    private void messages(int m, int n) {
        if (m == n) {
            return;
        }
        int kind = x.message(m, n, 0, 0);
        for (int i = 0; i < 60 && kind != -1; i++) {
            seen.append(" from ").append(m).append(" kind ").append(kind).append(" of ").append(x.message(m, n, i, 1));
            seen.append(" weight ").append(x.message(m, n, i, 2)).append(" for ").append(x.message(m, n, i, 3));
            kind = x.message(m, n, i + 1, 0);
        }
    }
}
