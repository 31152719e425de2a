import java.util.ArrayList;
import java.util.List;
import java.util.TreeMap;
import java.util.TreeSet;

/** The document's terms taken word by word: sets of nodes, a map of keys, holder sets kept in full. */
final class Model {
    final int maxNodes;
    final int maxKeys;
    final int replicas;
    final TreeSet<Integer> live = new TreeSet<>();
    final TreeMap<Integer, Integer> values = new TreeMap<>();
    final TreeMap<Integer, TreeSet<Integer>> holders = new TreeMap<>();
    int pending = 0;

    Model(int maxNodes, int maxKeys, int replicas) {
        this.maxNodes = Math.max(8, Math.min(32, maxNodes));
        this.maxKeys = Math.max(8, Math.min(32, maxKeys));
        this.replicas = Math.max(1, Math.min(3, replicas));
    }

    static boolean inRange(int x) {
        return x >= 0 && x <= 255;
    }

    static List<Integer> inOrder(int key, TreeSet<Integer> nodes) {
        List<Integer> list = new ArrayList<>(nodes);
        list.sort((a, b) -> (a - key + 256) % 256 - (b - key + 256) % 256);
        return list;
    }

    private TreeSet<Integer> top(int key) {
        return new TreeSet<>(inOrder(key, live).subList(0, Math.min(replicas, live.size())));
    }

    TreeSet<Integer> holdersOf(int key) {
        return holders.containsKey(key) ? holders.get(key) : new TreeSet<>();
    }

    private int repair() {
        int created = 0;
        if (live.isEmpty()) {
            values.clear();
            holders.clear();
        }
        for (int key : values.keySet()) {
            TreeSet<Integer> added = top(key);
            added.removeAll(holders.get(key));
            created += added.size();
            holders.put(key, top(key));
        }
        pending = 0;
        return created;
    }

    int join(int id) {
        if (!inRange(id)) {
            return -1;
        }
        if (live.contains(id)) {
            return -2;
        }
        if (live.size() == maxNodes) {
            return -4;
        }
        live.add(id);
        repair();
        return 0;
    }

    int leave(int id) {
        if (!inRange(id)) {
            return -1;
        }
        if (!live.remove(id)) {
            return -3;
        }
        repair();
        return 0;
    }

    int crash(int id) {
        if (!inRange(id)) {
            return -1;
        }
        if (!live.remove(id)) {
            return -3;
        }
        int lost = 0;
        for (int key : new ArrayList<>(values.keySet())) {
            holders.get(key).remove(id);
            if (holders.get(key).isEmpty()) {
                holders.remove(key);
                values.remove(key);
                lost++;
            }
        }
        pending++;
        return lost;
    }

    int stabilise() {
        return repair();
    }

    int put(int key, int value) {
        if (!inRange(key)) {
            return -1;
        }
        if (live.isEmpty()) {
            return -5;
        }
        if (!values.containsKey(key) && values.size() == maxKeys) {
            return -4;
        }
        values.put(key, value);
        holders.put(key, top(key));
        return 0;
    }

    int remove(int key) {
        if (!inRange(key)) {
            return -1;
        }
        if (!values.containsKey(key)) {
            return -6;
        }
        values.remove(key);
        holders.remove(key);
        return 0;
    }
}
