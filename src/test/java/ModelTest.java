import java.util.ArrayList;
import java.util.List;

/** All promises: long runs of mixed calls, every answer and every state compared with the model's. */
public final class ModelTest {
    private static final int CALLS = 600;

    private ChordRing ring;
    private Model model;
    private long seed;
    private String where = "";

    public static void main(String[] args) {
        int[][] sizes = {
            {8, 8, 1}, {8, 8, 2}, {8, 8, 3}, {32, 32, 1}, {32, 32, 2}, {32, 32, 3},
            {8, 32, 3}, {32, 8, 2}, {11, 19, 3}, {0, 100, -5}, {100, -1, 100}
        };
        // A narrow spread makes calls meet the same ids; the full one reaches every edge.
        int[] spreads = {12, 40, 256};
        long seed = 1;
        for (int[] size : sizes) {
            for (int spread : spreads) {
                new ModelTest().run(size, spread, seed++);
            }
        }
        Due.finish();
    }

    private void run(int[] size, int spread, long firstSeed) {
        ring = new ChordRing(size[0], size[1], size[2]);
        model = new Model(size[0], size[1], size[2]);
        seed = firstSeed * 7919;
        String name = "ring (" + size[0] + ", " + size[1] + ", " + size[2] + ") spread " + spread;
        for (int i = 0; i < CALLS && !Due.anyWrong(); i++) {
            // Phases in turn build the ring up, crash it, and let it run down.
            callOnce(i / 50 % 3, spread, name + " call " + i + ": ");
            compareState(i % 10 == 0);
        }
    }

    /** A number of 0 to bound - 1, the same in every run of the test. */
    private int next(int bound) {
        seed = seed * 6364136223846793005L + 1442695040888963407L;
        return (int) ((seed >>> 33) % bound);
    }

    private int anId(int spread) {
        if (next(20) == 0) {
            return Due.OUT_OF_RANGE[next(Due.OUT_OF_RANGE.length)];
        }
        return (250 + next(spread)) % 256;
    }

    /** Mostly a live node, since few of the ids are live. */
    private int aNode(int spread) {
        if (model.live.isEmpty() || next(4) == 0) {
            return anId(spread);
        }
        List<Integer> nodes = new ArrayList<>(model.live);
        return nodes.get(next(nodes.size()));
    }

    private int aStoredKey(int spread) {
        if (model.values.isEmpty() || next(4) == 0) {
            return anId(spread);
        }
        List<Integer> keys = new ArrayList<>(model.values.keySet());
        return keys.get(next(keys.size()));
    }

    private void callOnce(int phase, int spread, String prefix) {
        int[][] chances = {{40, 42, 45, 47, 95}, {8, 11, 41, 46, 92}, {5, 25, 45, 48, 85}};
        int[] chance = chances[phase];
        int dice = next(100);
        if (dice < chance[0]) {
            int id = anId(spread);
            where = prefix + "join(" + id + ")";
            Due.due(where, ring.join(id), model.join(id));
        } else if (dice < chance[1]) {
            int id = aNode(spread);
            where = prefix + "leave(" + id + ")";
            Due.due(where, ring.leave(id), model.leave(id));
        } else if (dice < chance[2]) {
            int id = aNode(spread);
            where = prefix + "crash(" + id + ")";
            Due.due(where, ring.crash(id), model.crash(id));
        } else if (dice < chance[3]) {
            where = prefix + "stabilise()";
            Due.due(where, ring.stabilise(), model.stabilise());
        } else if (dice < chance[4]) {
            int key = next(3) == 0 ? aStoredKey(spread) : anId(spread);
            int value = next(5) == 0 ? 0 : next(Integer.MAX_VALUE) * (next(2) * 2 - 1);
            where = prefix + "put(" + key + ", " + value + ")";
            Due.due(where, ring.put(key, value), model.put(key, value));
        } else {
            int key = aStoredKey(spread);
            where = prefix + "remove(" + key + ")";
            Due.due(where, ring.remove(key), model.remove(key));
        }
    }

    private void compareState(boolean everyPair) {
        Due.counts(where, ring, model.live.size(), model.values.size(), model.pending);
        for (int id = 0; id < 256; id++) {
            compareNode(id);
            compareKey(id);
            if (everyPair) {
                comparePairs(id);
            }
        }
    }

    // The text of a call is made only for a wrong answer: millions of answers are right.
    private void check(String getter, int a, int b, long got, long want) {
        if (got != want) {
            Due.due(where + " then " + getter + "(" + a + ", " + b + ")", got, want);
        }
    }

    private void check(String getter, int a, long got, long want) {
        if (got != want) {
            Due.due(where + " then " + getter + "(" + a + ")", got, want);
        }
    }

    private void compareNode(int node) {
        check("isLive", node, ring.isLive(node) ? 1 : 0, model.live.contains(node) ? 1 : 0);
        int count = 0;
        for (int key : model.values.keySet()) {
            if (model.holders.get(key).contains(node)) {
                check("keyAt", node, count, ring.keyAt(node, count), key);
                count++;
            }
        }
        check("keyAt", node, count, ring.keyAt(node, count), -1);
        check("keysAt", node, ring.keysAt(node), count);
    }

    private void compareKey(int key) {
        check("valueOf", key, ring.valueOf(key), model.values.getOrDefault(key, 0));
        List<Integer> order = Model.inOrder(key, model.holdersOf(key));
        for (int i = 0; i < 4; i++) {
            check("holderAt", key, i, ring.holderAt(key, i), i < order.size() ? order.get(i) : -1);
        }
    }

    private void comparePairs(int key) {
        int first = model.live.isEmpty() ? -1 : Model.inOrder(key, model.live).get(0);
        for (int node = 0; node < 256; node++) {
            boolean held = model.holdersOf(key).contains(node);
            check("holds", node, key, ring.holds(node, key) ? 1 : 0, held ? 1 : 0);
            int want = model.live.contains(node) ? first : -1;
            check("lookup", node, key, ring.lookup(node, key), want);
        }
    }
}
