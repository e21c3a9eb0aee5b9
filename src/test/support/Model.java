import java.util.ArrayList;
import java.util.HashSet;
import java.util.List;
import java.util.Set;
import java.util.TreeMap;

// A second program for the same document that follows its words and spares nothing.
final class Model {
    private record Entry(boolean allows, int who, int rights, int flags) {
        boolean has(int flag) {
            return (flags & flag) != 0;
        }
    }

    private static final class Node {
        int parent;
        boolean closed;
        final List<Entry> entries = new ArrayList<>();

        Node(int parent) {
            this.parent = parent;
        }
    }

    private final TreeMap<Integer, Node> nodes = new TreeMap<>();
    private final List<Set<Integer>> groups = List.of(new HashSet<>(), new HashSet<>());

    Model() {
        nodes.put(0, new Node(-1));
    }

    private static boolean in(int n, int least, int most) {
        return least <= n && n <= most;
    }

    private static void addKind(List<Entry> list, List<Entry> from, boolean allows) {
        for (Entry e : from) {
            if (e.allows() == allows) {
                list.add(e);
            }
        }
    }

    private static void addBoth(List<Entry> list, List<Entry> from) {
        addKind(list, from, false);
        addKind(list, from, true);
    }

    private List<Entry> listOf(int o) {
        List<Entry> list = new ArrayList<>();
        addBoth(list, nodes.get(o).entries.stream().filter(e -> !e.has(2)).toList());
        int left = o;
        boolean first = true;
        while (left != 0 && !nodes.get(left).closed) {
            int q = nodes.get(left).parent;
            boolean nearest = first;
            addBoth(list, nodes.get(q).entries.stream()
                .filter(e -> e.has(1) && (nearest || !e.has(4))).toList());
            left = q;
            first = false;
        }
        return list;
    }

    private boolean covers(int who, int p) {
        return who < 6 ? who == p : groups.get(who - 6).contains(p);
    }

    private boolean allowed(int o, int p, int r) {
        for (Entry e : listOf(o)) {
            if (covers(e.who(), p) && (e.rights() >> r) % 2 == 1) {
                return e.allows();
            }
        }
        return false;
    }

    private int rightsOf(int o, int p) {
        int sum = 0;
        for (int r = 0; r < 4; r++) {
            sum += allowed(o, p, r) ? 1 << r : 0;
        }
        return sum;
    }

    private boolean goes(int o, int p) {
        return allowed(o, p, 0) && (o == 0 || goes(nodes.get(o).parent, p));
    }

    private boolean atOrBelow(int o, int top) {
        return o == top || o != 0 && atOrBelow(nodes.get(o).parent, top);
    }

    private List<Integer> allRights() {
        List<Integer> all = new ArrayList<>();
        for (int o : nodes.keySet()) {
            for (int p = 0; p < 6; p++) {
                all.add(rightsOf(o, p));
            }
        }
        return all;
    }

    int create(int o, int q) {
        if (!in(o, 1, 15) || !in(q, 0, 15)) {
            return -1;
        }
        if (nodes.containsKey(o) || !nodes.containsKey(q)) {
            return -3;
        }
        nodes.put(o, new Node(q));
        return 0;
    }

    int remove(int o) {
        if (!in(o, 1, 15)) {
            return -1;
        }
        if (!nodes.containsKey(o)) {
            return -3;
        }
        if (nodes.values().stream().anyMatch(n -> n.parent == o)) {
            return -4;
        }
        nodes.remove(o);
        return 0;
    }

    int move(int o, int q) {
        if (!in(o, 1, 15) || !in(q, 0, 15)) {
            return -1;
        }
        if (!nodes.containsKey(o) || !nodes.containsKey(q)) {
            return -3;
        }
        if (atOrBelow(q, o)) {
            return -4;
        }
        int before = nodes.get(o).parent;
        nodes.get(o).parent = q;
        return before;
    }

    int parentOf(int o) {
        return o == 0 || !nodes.containsKey(o) ? -3 : nodes.get(o).parent;
    }

    int refusal(int o) {
        return !in(o, 0, 15) ? -1 : !nodes.containsKey(o) ? -3 : 0;
    }

    int close(int o, int on) {
        if (refusal(o) != 0) {
            return refusal(o);
        }
        boolean before = nodes.get(o).closed;
        nodes.get(o).closed = on != 0;
        return before ? 1 : 0;
    }

    int member(int g, int p, int on) {
        if (!in(g, 6, 7) || !in(p, 0, 5)) {
            return -1;
        }
        Set<Integer> group = groups.get(g - 6);
        boolean before = on != 0 ? !group.add(p) : group.remove(p);
        return before ? 1 : 0;
    }

    int entry(int o, int who, int rights, int kindAndFlags) {
        if (!in(o, 0, 15) || !in(who, 0, 7) || !in(rights, 0, 15) || !in(kindAndFlags, 0, 15)) {
            return -1;
        }
        if (!nodes.containsKey(o)) {
            return -3;
        }
        List<Entry> list = nodes.get(o).entries;
        if (list.size() == 4) {
            return -2;
        }
        list.add(new Entry(kindAndFlags / 8 == 1, who, rights, kindAndFlags % 8));
        return list.size();
    }

    int drop(int o, int i) {
        if (refusal(o) != 0) {
            return refusal(o);
        }
        List<Entry> list = nodes.get(o).entries;
        if (!in(i, 0, list.size() - 1)) {
            return -3;
        }
        list.remove(i);
        return list.size();
    }

    int entries(int o) {
        return refusal(o) != 0 ? refusal(o) : nodes.get(o).entries.size();
    }

    int rights(int o, int p) {
        if (!in(p, 0, 5)) {
            return -1;
        }
        return refusal(o) != 0 ? refusal(o) : rightsOf(o, p);
    }

    int may(int o, int p, int r) {
        return in(p, 0, 5) && in(r, 0, 3) && refusal(o) == 0 && allowed(o, p, r) ? 1 : 0;
    }

    int who(int o, int r) {
        if (!in(r, 0, 3)) {
            return -1;
        }
        if (refusal(o) != 0) {
            return refusal(o);
        }
        int sum = 0;
        for (int p = 0; p < 6; p++) {
            sum += allowed(o, p, r) ? 1 << p : 0;
        }
        return sum;
    }

    int count(int p, int r) {
        if (!in(p, 0, 5) || !in(r, 0, 3)) {
            return -1;
        }
        return (int) nodes.keySet().stream().filter(o -> allowed(o, p, r)).count();
    }

    int reach(int p) {
        return !in(p, 0, 5) ? -1 : (int) nodes.keySet().stream().filter(o -> goes(o, p)).count();
    }

    int stir(int o) {
        if (refusal(o) != 0) {
            return refusal(o);
        }
        List<Integer> now = allRights();
        nodes.get(o).closed = !nodes.get(o).closed;
        List<Integer> then = allRights();
        nodes.get(o).closed = !nodes.get(o).closed;
        int others = 0;
        for (int k = 0; k < now.size(); k++) {
            others += now.get(k).equals(then.get(k)) ? 0 : 1;
        }
        return others;
    }
}
