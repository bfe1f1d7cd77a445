import java.util.ArrayList;
import java.util.HashSet;
import java.util.List;
import java.util.Map;
import java.util.Set;
import java.util.TreeMap;

/**
 * A second program after the document's words, as slow and as near to them as can be: sets and maps,
 * and each rule tried again and again till it changes nothing. It shares nothing with FarHeaps.
 */
final class PlainModel {

    /** An OBJECT; ordered by NODES, then numbers. */
    record Ref(int node, int number) implements Comparable<Ref> {
        @Override
        public int compareTo(Ref other) {
            return node != other.node ? Integer.compare(node, other.node) : Integer.compare(number, other.number);
        }

        int name() {
            return 100 * node + number;
        }
    }

    private record Message(int kind, int from, int to, Ref ref, int weight, int register) {
    }

    /** A VALUE in a slot is null (nothing), an Integer or a Ref. */
    private static final class Thing {
        private int address;
        private Object[] fields;
    }

    private static final class Node {
        private final Object[] registers = new Object[6];
        private final TreeMap<Integer, Thing> things = new TreeMap<>();
        private final TreeMap<Ref, Integer> imports = new TreeMap<>();
        private final TreeMap<Integer, Integer> exports = new TreeMap<>();
        private int top;
        private int moved;
    }

    private final List<Node> nodes = new ArrayList<>();
    private final List<Message> messages = new ArrayList<>();

    PlainModel(int n) {
        int many = n < 1 ? 1 : n > 5 ? 5 : n;
        for (int i = 0; i < many; i++) {
            nodes.add(new Node());
        }
    }

    private boolean node(int n) {
        return 0 <= n && n < nodes.size();
    }

    private boolean reg(int n, int a) {
        return node(n) && 0 <= a && a < 6;
    }

    private Thing thing(int n, int k) {
        return node(n) ? nodes.get(n).things.get(k) : null;
    }

    private Thing thing(Ref ref) {
        return thing(ref.node, ref.number);
    }

    /** The LOCAL OBJECT in REGISTER a if it has a FIELD f. */
    private Thing withField(int n, int a, int f) {
        if (reg(n, a) && nodes.get(n).registers[a] instanceof Ref ref && ref.node == n) {
            Thing it = thing(ref);
            return 0 <= f && f < it.fields.length ? it : null;
        }
        return null;
    }

    int make(int n, int register, int s) {
        if (!reg(n, register) || s < 0 || s > 12 || nodes.get(n).things.size() == 24) {
            return -1;
        }
        Node it = nodes.get(n);
        if (160 - it.top < s + 1) {
            return -2;
        }
        int k = 0;
        while (it.things.containsKey(k)) {
            k++;
        }
        Thing made = new Thing();
        made.address = it.top;
        made.fields = new Object[s];
        it.things.put(k, made);
        it.top += s + 1;
        it.registers[register] = new Ref(n, k);
        return k;
    }

    boolean set(int n, int a, int f, int b) {
        Thing it = withField(n, a, f);
        if (it == null || !reg(n, b)) {
            return false;
        }
        it.fields[f] = nodes.get(n).registers[b];
        return true;
    }

    boolean get(int n, int a, int f, int b) {
        Thing it = withField(n, a, f);
        if (it == null || !reg(n, b)) {
            return false;
        }
        nodes.get(n).registers[b] = it.fields[f];
        return true;
    }

    boolean number(int n, int a, int v) {
        if (reg(n, a)) {
            nodes.get(n).registers[a] = v;
        }
        return reg(n, a);
    }

    boolean drop(int n, int a) {
        if (reg(n, a)) {
            nodes.get(n).registers[a] = null;
        }
        return reg(n, a);
    }

    int send(int n, int a, int m, int b) {
        if (!reg(n, a) || !reg(m, b) || m == n || messages.size() == 60
            || !(nodes.get(n).registers[a] instanceof Ref ref)) {
            return -1;
        }
        int weight = 64;
        if (ref.node == n) {
            nodes.get(n).exports.merge(ref.number, 64, Integer::sum);
        } else {
            int w = nodes.get(n).imports.get(ref);
            if (w == 1) {
                return -2;
            }
            weight = w / 2;
            nodes.get(n).imports.put(ref, w - weight);
        }
        messages.add(new Message(1, n, m, ref, weight, b));
        return weight;
    }

    boolean ask(int n, int a) {
        if (reg(n, a) && messages.size() < 60 && nodes.get(n).registers[a] instanceof Ref ref && ref.node != n) {
            messages.add(new Message(3, n, ref.node, ref, 0, -1));
            return true;
        }
        return false;
    }

    private List<Message> between(int m, int n) {
        return messages.stream().filter(x -> x.from == m && x.to == n).toList();
    }

    private void less(Ref ref, int weight) {
        Map<Integer, Integer> exports = nodes.get(ref.node).exports;
        int rest = exports.get(ref.number) - weight;
        if (rest == 0) {
            exports.remove(ref.number);
        } else {
            exports.put(ref.number, rest);
        }
    }

    int come(int m, int n) {
        if (!node(m) || !node(n) || m == n) {
            return -1;
        }
        if (between(m, n).isEmpty()) {
            return 0;
        }
        Message it = between(m, n).get(0);
        Node to = nodes.get(n);
        if (it.kind == 1 && it.ref.node != n && !to.imports.containsKey(it.ref) && to.imports.size() == 30) {
            return -2;
        }
        messages.remove(messages.indexOf(it));
        switch (it.kind) {
            case 1 -> {
                to.registers[it.register] = it.ref;
                if (it.ref.node == n) {
                    less(it.ref, it.weight);
                } else {
                    to.imports.merge(it.ref, it.weight, Integer::sum);
                }
            }
            case 2 -> less(it.ref, it.weight);
            case 3 -> {
                to.exports.merge(it.ref.number, 64, Integer::sum);
                messages.add(new Message(4, n, m, it.ref, 64, -1));
            }
            default -> {
                if (to.imports.containsKey(it.ref)) {
                    to.imports.merge(it.ref, it.weight, Integer::sum);
                } else {
                    messages.add(new Message(2, n, it.ref.node, it.ref, it.weight, -1));
                }
            }
        }
        return it.kind;
    }

    int drain(int k) {
        if (k < 0 || k > 1000) {
            return -1;
        }
        int came = 0;
        while (came < k && oneComes()) {
            came++;
        }
        return came;
    }

    private boolean oneComes() {
        for (int m = 0; m < nodes.size(); m++) {
            for (int n = 0; n < nodes.size(); n++) {
                if (m != n && come(m, n) > 0) {
                    return true;
                }
            }
        }
        return false;
    }

    private static void addRefs(Set<Ref> to, Object[] from) {
        for (Object value : from) {
            if (value instanceof Ref ref) {
                to.add(ref);
            }
        }
    }

    /** Adds what FIELDS of those in it hold till nothing is new; of one NODE's OBJECTS only, unless it is -1. */
    private Set<Ref> closed(Set<Ref> start, int onlyNode) {
        Set<Ref> all = new HashSet<>(start);
        int before;
        do {
            before = all.size();
            for (Ref ref : List.copyOf(all)) {
                if (onlyNode == -1 || ref.node == onlyNode) {
                    addRefs(all, thing(ref).fields);
                }
            }
        } while (all.size() > before);
        return all;
    }

    int collect(int n) {
        if (!node(n)) {
            return -1;
        }
        Node it = nodes.get(n);
        Set<Ref> roots = new HashSet<>();
        addRefs(roots, it.registers);
        it.exports.keySet().forEach(k -> roots.add(new Ref(n, k)));
        Set<Ref> marked = closed(roots, n);
        List<Ref> back = it.imports.keySet().stream().filter(ref -> !marked.contains(ref)).toList();
        if (back.size() + messages.size() > 60) {
            return -2;
        }
        back.forEach(ref -> giveBack(n, ref));
        int before = it.things.size();
        it.things.keySet().removeIf(k -> !marked.contains(new Ref(n, k)));
        List<Thing> left = new ArrayList<>(it.things.values());
        left.sort((p, q) -> Integer.compare(p.address, q.address));
        it.top = 0;
        for (Thing t : left) {
            it.moved += t.address != it.top ? t.fields.length + 1 : 0;
            t.address = it.top;
            it.top += t.fields.length + 1;
        }
        return before - left.size();
    }

    private void giveBack(int n, Ref ref) {
        messages.add(new Message(2, n, ref.node, ref, nodes.get(n).imports.remove(ref), -1));
    }

    private static boolean holds(Object[] slots, Ref ref) {
        Set<Ref> all = new HashSet<>();
        addRefs(all, slots);
        return all.contains(ref);
    }

    private boolean isInner(int n, Ref ref, Set<Ref> gray, Set<Ref> without) {
        boolean within = false;
        boolean elsewhere = holds(nodes.get(n).registers, ref);
        for (Map.Entry<Integer, Thing> e : nodes.get(n).things.entrySet()) {
            Ref holder = new Ref(n, e.getKey());
            if (holds(e.getValue().fields, ref)) {
                if (gray.contains(holder) && !without.contains(holder)) {
                    within = true;
                } else {
                    elsewhere = true;
                }
            }
        }
        return gray.contains(ref) && within && !elsewhere;
    }

    private boolean isWithout(Ref ref, Set<Ref> gray, Set<Ref> without) {
        if (holds(nodes.get(ref.node).registers, ref)) {
            return true;
        }
        for (Map.Entry<Integer, Thing> e : nodes.get(ref.node).things.entrySet()) {
            if (!gray.contains(new Ref(ref.node, e.getKey())) && holds(e.getValue().fields, ref)) {
                return true;
            }
        }
        for (Ref holder : without) {
            if (holds(thing(holder).fields, ref)) {
                return true;
            }
        }
        Integer total = nodes.get(ref.node).exports.get(ref.number);
        int inner = 0;
        for (int n = 0; n < nodes.size(); n++) {
            if (nodes.get(n).imports.containsKey(ref) && isInner(n, ref, gray, without)) {
                inner += nodes.get(n).imports.get(ref);
            }
        }
        return total != null && total != inner;
    }

    int trial(int n, int k) {
        if (thing(n, k) == null || !nodes.get(n).exports.containsKey(k) || !messages.isEmpty()) {
            return -1;
        }
        Set<Ref> gray = closed(Set.of(new Ref(n, k)), -1);
        Set<Ref> without = new HashSet<>();
        int before;
        do {
            before = without.size();
            for (Ref ref : gray) {
                if (!without.contains(ref) && isWithout(ref, gray, without)) {
                    without.add(ref);
                }
            }
        } while (without.size() > before);
        if (without.contains(new Ref(n, k))) {
            return 0;
        }
        List<List<Ref>> inner = new ArrayList<>();
        int many = 0;
        for (int i = 0; i < nodes.size(); i++) {
            int q = i;
            inner.add(nodes.get(i).imports.keySet().stream().filter(ref -> isInner(q, ref, gray, without)).toList());
            many += inner.get(i).size();
        }
        if (many > 60) {
            return 0;
        }
        for (int i = 0; i < nodes.size(); i++) {
            int q = i;
            inner.get(i).forEach(ref -> giveBack(q, ref));
        }
        gray.removeAll(without);
        gray.forEach(ref -> java.util.Arrays.fill(thing(ref).fields, null));
        return gray.size();
    }

    int settle() {
        int gone = 0;
        while (true) {
            int came = drain(1000);
            int before = messages.size();
            int went = 0;
            for (int n = 0; n < nodes.size(); n++) {
                int some = collect(n);
                if (some == -2) {
                    return -2;
                }
                went += some;
            }
            gone += went;
            if (came == 0 && went == 0 && messages.size() == before) {
                return messages.isEmpty() ? gone : -2;
            }
        }
    }

    int pass() {
        int gone = 0;
        while (true) {
            int went = settle();
            if (went == -2) {
                return -2;
            }
            gone += went;
            boolean succeeded = false;
            for (int n = 0; n < nodes.size() && !succeeded; n++) {
                for (int k : List.copyOf(nodes.get(n).exports.keySet())) {
                    if (trial(n, k) > 0) {
                        succeeded = true;
                        break;
                    }
                }
            }
            if (!succeeded) {
                return gone;
            }
        }
    }

    private static int tell(int n, Object value, int what) {
        if (what != 0 && what != 1) {
            return -1;
        }
        if (value instanceof Ref ref) {
            return what == 1 ? ref.name() : ref.node == n ? 2 : 3;
        }
        if (value instanceof Integer v) {
            return what == 1 ? v : 1;
        }
        return 0;
    }

    int register(int n, int a, int what) {
        return reg(n, a) ? tell(n, nodes.get(n).registers[a], what) : -1;
    }

    int field(int n, int k, int f, int what) {
        Thing it = thing(n, k);
        return it == null || f < 0 || f >= it.fields.length ? -1 : tell(n, it.fields[f], what);
    }

    int cell(int n, int i, int what) {
        if (!node(n) || (what != 0 && what != 1)) {
            return -1;
        }
        for (Map.Entry<Integer, Thing> e : nodes.get(n).things.entrySet()) {
            int behind = i - e.getValue().address;
            if (i >= 0 && behind >= 0 && behind <= e.getValue().fields.length) {
                return what == 0 ? e.getKey() : behind;
            }
        }
        return -1;
    }

    Set<Ref> held() {
        Set<Ref> roots = new HashSet<>();
        nodes.forEach(it -> addRefs(roots, it.registers));
        messages.stream().filter(it -> it.kind == 1).forEach(it -> roots.add(it.ref));
        return closed(roots, -1);
    }

    int object(int n, int k, int what) {
        Thing it = thing(n, k);
        if (it == null) {
            return -2;
        }
        return switch (what) {
            case 0 -> it.address;
            case 1 -> it.fields.length;
            case 2 -> nodes.get(n).exports.getOrDefault(k, 0);
            case 3 -> held().contains(new Ref(n, k)) ? 1 : 0;
            default -> -2;
        };
    }

    int weight(int n, int m, int k) {
        return node(n) ? nodes.get(n).imports.getOrDefault(new Ref(m, k), 0) : 0;
    }

    int message(int m, int n, int i, int what) {
        List<Message> all = between(m, n);
        if (i < 0 || i >= all.size()) {
            return -1;
        }
        Message it = all.get(i);
        return switch (what) {
            case 0 -> it.kind;
            case 1 -> it.ref.name();
            case 2 -> it.weight;
            case 3 -> it.register;
            default -> -1;
        };
    }

    int count(int n, int what) {
        if ((n != -1 && !node(n)) || what < 0 || what > 6) {
            return -1;
        }
        Set<Ref> held = held();
        int sum = 0;
        for (int i = n == -1 ? 0 : n; i <= (n == -1 ? nodes.size() - 1 : n); i++) {
            Node it = nodes.get(i);
            int q = i;
            sum += switch (what) {
                case 0 -> it.things.size();
                case 1 -> it.exports.size();
                case 2 -> it.imports.size();
                case 3 -> (int) it.things.keySet().stream().filter(k -> !held.contains(new Ref(q, k))).count();
                case 4 -> (int) messages.stream().filter(x -> x.to == q).count();
                case 5 -> it.top;
                default -> it.moved;
            };
        }
        return sum;
    }

    boolean isEven() {
        TreeMap<Ref, Integer> sums = new TreeMap<>();
        nodes.forEach(it -> it.imports.forEach((ref, w) -> sums.merge(ref, w, Integer::sum)));
        messages.stream().filter(it -> it.kind != 3).forEach(it -> sums.merge(it.ref, it.weight, Integer::sum));
        TreeMap<Ref, Integer> totals = new TreeMap<>();
        for (int n = 0; n < nodes.size(); n++) {
            int q = n;
            nodes.get(n).exports.forEach((k, total) -> totals.put(new Ref(q, k), total));
        }
        return sums.equals(totals);
    }
}
