import java.util.function.Supplier;

/** The section 'Terms': the terms at their edges, and the general rules; a test for each sentence. */
public final class TermsTest {
    private static final int[] EDGE_IDS = {0, 1, 2, 63, 64, 126, 127, 128, 129, 191, 192, 253, 254, 255};

    public static void main(String[] args) {
        inRangeIs0To255();
        distIsClockwise();
        distancesNeverTie();
        liveNodesStayWithinMaxNodes();
        storedKeysStayWithinMaxKeys();
        storedValuesAreAnyInts();
        holderSetsAreNeverEmpty();
        pendingCountsCrashesAlone();
        succOfALiveKeyIsTheKey();
        topOfFewerAndMoreNodesThanR();
        repairWithoutNodesRemovesEveryKey();
        repairWithNodesKeepsEveryKey();
        repairEndsWithPending0();
        refusedCallsChangeNothing();
        gettersChangeNothing();
        argumentsMayBeAnyInts();
        Due.finish();
    }

    private static void inRangeIs0To255() {
        Due.sentence("an int x with 0 <= x <= 255.");
        for (int x : new int[] {-1, 0, 255, 256}) {
            boolean in = x == 0 || x == 255;
            ChordRing ring = Sample.fresh();
            Due.join(ring, 128);
            Due.due("join(" + x + ")", ring.join(x), in ? ChordRing.OK : ChordRing.ERR_RANGE);
            Due.due("isLive(" + x + ")", ring.isLive(x), in);
            Due.due("put(" + x + ")", ring.put(x, 7), in ? ChordRing.OK : ChordRing.ERR_RANGE);
            Due.due("valueOf(" + x + ")", ring.valueOf(x), in ? 7 : 0);
            Due.due("lookup(" + x + ", same)", ring.lookup(x, x), in ? x : ChordRing.NONE);
            Due.due("holderAt(" + x + ", 1)", ring.holderAt(x, 1), in ? 128 : ChordRing.NONE);
            Due.due("holds(" + x + ", same)", ring.holds(x, x), in);
            Due.due("keysAt(" + x + ")", ring.keysAt(x), in ? 1 : 0);
            Due.due("keyAt(" + x + ", 0)", ring.keyAt(x, 0), in ? x : ChordRing.NONE);
            Due.due("remove(" + x + ")", ring.remove(x), in ? ChordRing.OK : ChordRing.ERR_RANGE);
            Due.due("leave(" + x + ")", ring.leave(x), in ? ChordRing.OK : ChordRing.ERR_RANGE);
            ring.join(x);
            Due.due("crash(" + x + ")", ring.crash(x), in ? 0 : ChordRing.ERR_RANGE);
        }
    }

    private static int dist(int a, int b) {
        return (b - a + 256) % 256;
    }

    private static void distIsClockwise() {
        Due.sentence("= (b - a + 256) % 256 for in-range a, b: the clockwise distance from a to b.");
        for (int one : EDGE_IDS) {
            for (int other : EDGE_IDS) {
                if (one < other) {
                    twoNodes(one, other);
                }
            }
        }
    }

    private static void twoNodes(int one, int other) {
        for (int key = 0; key < ChordRing.RING; key++) {
            ChordRing ring = Sample.fresh();
            Due.join(ring, one, other);
            Due.put(ring, key);
            boolean oneFirst = dist(key, one) < dist(key, other);
            Due.holders("nodes " + one + " " + other, ring, key, oneFirst ? one : other, oneFirst ? other : one);
        }
    }

    private static void distancesNeverTie() {
        Due.sentence("Distinct ids have distinct distances, so there are never ties.");
        for (int key = 0; key < ChordRing.RING; key++) {
            ChordRing ring = new ChordRing(8, 8, 3);
            int before = (key + 255) % 256;
            int after = (key + 1) % 256;
            int across = (key + 128) % 256;
            Due.join(ring, before, across, after);
            Due.put(ring, key);
            Due.holders("as far before as after", ring, key, after, across, before);
            Due.join(ring, key);
            Due.holders("distance 0", ring, key, key, after, across);
        }
    }

    private static void liveNodesStayWithinMaxNodes() {
        Due.sentence("L = |LIVE|, and always L <= maxNodes.");
        for (int size : new int[] {8, 20, 32}) {
            ChordRing ring = new ChordRing(size, 8, 2);
            for (int id = 0; id < ChordRing.RING; id++) {
                ring.join(id);
                Due.due("nodeCount()", ring.nodeCount(), Math.min(id + 1, size));
                Due.due("live ids", liveIds(ring), Math.min(id + 1, size));
            }
            ring.leave(0);
            ring.crash(1);
            Due.due("nodeCount() after two departures", ring.nodeCount(), size - 2);
            Due.due("live ids after two departures", liveIds(ring), size - 2);
        }
    }

    private static int liveIds(ChordRing ring) {
        int count = 0;
        for (int id = 0; id < ChordRing.RING; id++) {
            count += ring.isLive(id) ? 1 : 0;
        }
        return count;
    }

    private static void storedKeysStayWithinMaxKeys() {
        Due.sentence("keyCount = |STORE|, and always keyCount <= maxKeys.");
        for (int size : new int[] {8, 20, 32}) {
            ChordRing ring = new ChordRing(8, size, 1);
            Due.join(ring, 1, 255);
            for (int key = 0; key < ChordRing.RING; key++) {
                ring.put(key, key);
                Due.due("keyCount()", ring.keyCount(), Math.min(key + 1, size));
                Due.due("keys with a holder", storedKeys(ring), Math.min(key + 1, size));
            }
            Due.due("remove(5)", ring.remove(5), ChordRing.OK);
            Due.due("crash(1), keys 0 and 1", ring.crash(1), 2);
            Due.due("keyCount()", ring.keyCount(), size - 3);
            Due.due("keys with a holder", storedKeys(ring), size - 3);
        }
    }

    private static int storedKeys(ChordRing ring) {
        int count = 0;
        for (int key = 0; key < ChordRing.RING; key++) {
            count += ring.holderAt(key, 0) != ChordRing.NONE ? 1 : 0;
        }
        return count;
    }

    private static void storedValuesAreAnyInts() {
        Due.sentence("a map from each stored key k to a value V(k) (any int)");
        int[] values = {Integer.MIN_VALUE, -256, -6, -1, 0, 1, 256, Integer.MAX_VALUE};
        ChordRing ring = Sample.fresh();
        Due.join(ring, 10, 20, 30);
        for (int i = 0; i < values.length; i++) {
            Due.due("put(" + i + ", " + values[i] + ")", ring.put(i, values[i]), ChordRing.OK);
        }
        Due.due("crash(10)", ring.crash(10), 0);
        Due.due("stabilise()", ring.stabilise(), values.length);
        for (int i = 0; i < values.length; i++) {
            Due.due("valueOf(" + i + ")", ring.valueOf(i), values[i]);
            Due.holders("value " + values[i], ring, i, 20, 30);
        }
    }

    private static void holderSetsAreNeverEmpty() {
        Due.sentence("and a holder set H(k), which is a NONEMPTY set of live node ids.");
        ChordRing ring = new ChordRing(8, 8, 3);
        Due.join(ring, 10, 20, 30, 40, 50);
        Due.put(ring, 5, 35);
        Due.due("crash(20)", ring.crash(20), 0);
        Due.due("crash(10)", ring.crash(10), 0);
        Due.holders("one holder is left", ring, 5, 30);
        Due.holders("two holders are left", ring, 35, 40, 50);
        Due.due("the last holder crashes", ring.crash(30), 1);
        Due.holders("no holder, so not stored", ring, 5);
        Due.due("no holder, so not stored", ring.remove(5), ChordRing.ERR_NO_KEY);
        Due.due("keyCount()", ring.keyCount(), 1);
    }

    private static void pendingCountsCrashesAlone() {
        Due.sentence("the pending crash count (crashes since the last repair).");
        ChordRing ring = Sample.fullOfNodes();
        Due.due("nothing but joins and puts", ring.pendingCrashes(), 0);
        ring.crash(10);
        Due.put(ring, 6);
        ring.remove(6);
        ring.crash(20);
        Due.due("two crashes", ring.pendingCrashes(), 2);
        ring.leave(30);
        ring.crash(40);
        Due.due("one crash since a leave", ring.pendingCrashes(), 1);
    }

    private static void succOfALiveKeyIsTheKey() {
        Due.sentence("the first member of LIVE in order relative to k (k itself if k is live).");
        for (int key = 0; key < ChordRing.RING; key++) {
            ChordRing ring = new ChordRing(8, 8, 1);
            int next = (key + 1) % 256;
            int last = (key + 255) % 256;
            Due.join(ring, last);
            Due.due("farthest of all", ring.lookup(last, key), last);
            Due.join(ring, next);
            Due.due("one step on", ring.lookup(last, key), next);
            Due.join(ring, key);
            Due.due("k itself", ring.lookup(last, key), key);
        }
    }

    private static void topOfFewerAndMoreNodesThanR() {
        Due.sentence("the first min(R, L) members of LIVE in order relative to k.");
        for (int replicas = 1; replicas <= 3; replicas++) {
            ChordRing ring = new ChordRing(8, 8, replicas);
            int[] order = {251, 255, 0, 100, 250};
            for (int nodes = 1; nodes <= order.length; nodes++) {
                Due.join(ring, order[nodes - 1]);
                Due.put(ring, 251);
                int[] want = new int[Math.min(replicas, nodes)];
                System.arraycopy(order, 0, want, 0, want.length);
                Due.holders("R " + replicas + " L " + nodes, ring, 251, want);
            }
        }
    }

    private static void repairWithoutNodesRemovesEveryKey() {
        Due.sentence("if L == 0, every key is removed from STORE;");
        ChordRing ring = new ChordRing(8, 32, 2);
        Due.join(ring, 9);
        for (int key = 0; key < 32; key++) {
            Due.put(ring, 8 * key + key % 8);
        }
        Due.due("leave of the last", ring.leave(9), ChordRing.OK);
        Due.due("keyCount()", ring.keyCount(), 0);
        Due.due("keys with a holder", storedKeys(ring), 0);
        Due.join(ring, 9);
        Due.keys("the same node again", ring, 9);
    }

    private static void repairWithNodesKeepsEveryKey() {
        Due.sentence("otherwise, for every stored key k, H(k) := top(k), with V(k) unchanged.");
        ChordRing mended = Sample.fullOfKeys();
        mended.stabilise();
        ChordRing joined = Sample.fullOfKeys();
        Due.join(joined, 200);
        Due.due("leave(200)", joined.leave(200), ChordRing.OK);
        for (ChordRing ring : new ChordRing[] {mended, joined}) {
            Due.values("repaired", ring, 1, 2, 11, 12, 21, 22, 31, 32);
            Due.holders("repaired", ring, 1, 10, 30);
            Due.holders("repaired", ring, 2, 10, 30);
            Due.holders("repaired", ring, 11, 30, 40);
            Due.holders("repaired", ring, 12, 30, 40);
            Due.holders("repaired", ring, 22, 30, 40);
            Due.holders("repaired", ring, 32, 40, 10);
        }
    }

    private static void repairEndsWithPending0() {
        Due.sentence("Then P := 0.");
        ChordRing withNodes = Sample.broken();
        withNodes.stabilise();
        Due.due("a node is live", withNodes.pendingCrashes(), 0);
        ChordRing without = Sample.crashedOut();
        Due.due("two crashes", without.pendingCrashes(), 2);
        without.stabilise();
        Due.due("no node is live", without.pendingCrashes(), 0);
        ChordRing last = Sample.fresh();
        Due.join(last, 10, 20);
        Due.put(last, 5);
        last.crash(10);
        last.leave(20);
        Due.due("the last has left", last.pendingCrashes(), 0);
    }

    private static void refusedCallsChangeNothing() {
        Due.sentence("Every refused call (one that answers a negative status) changes nothing at all.");
        for (Supplier<ChordRing> make : Sample.all()) {
            ChordRing ring = make.get();
            boolean noRoom = ring.nodeCount() == 8;
            boolean noKeyRoom = ring.keyCount() == 8;
            boolean empty = ring.nodeCount() == 0;
            for (int x = -30; x < 300; x++) {
                boolean out = x < 0 || x > 255;
                boolean stored = ring.holderAt(x, 0) != ChordRing.NONE;
                refusedIf(out || ring.isLive(x) || noRoom, "join", x, ring, 0);
                refusedIf(out || !ring.isLive(x), "leave", x, ring, 1);
                refusedIf(out || !ring.isLive(x), "crash", x, ring, 2);
                refusedIf(out || empty || noKeyRoom && !stored, "put", x, ring, 3);
                refusedIf(out || !stored, "remove", x, ring, 4);
            }
            Due.unchanged("every refused call", ring, make.get());
        }
    }

    private static void refusedIf(boolean due, String name, int x, ChordRing ring, int call) {
        if (due) {
            int answer = call == 0 ? ring.join(x) : call == 1 ? ring.leave(x)
                : call == 2 ? ring.crash(x) : call == 3 ? ring.put(x, 77) : ring.remove(x);
            Due.due(name + "(" + x + ") is refused", answer < 0, true);
        }
    }

    private static void gettersChangeNothing() {
        Due.sentence("Getters never change anything.");
        for (Supplier<ChordRing> make : Sample.all()) {
            ChordRing ring = make.get();
            for (int a = -2; a < ChordRing.RING + 2; a++) {
                for (int b = -2; b < ChordRing.RING + 2; b++) {
                    ring.lookup(a, b);
                    ring.holds(a, b);
                    ring.holderAt(a, b);
                    ring.keyAt(a, b);
                }
                ring.isLive(a);
                ring.valueOf(a);
                ring.keysAt(a);
            }
            ring.nodeCount();
            ring.keyCount();
            ring.pendingCrashes();
            Due.unchanged("every getter", ring, make.get());
        }
    }

    private static void argumentsMayBeAnyInts() {
        Due.sentence("Arguments may be any ints, including negative values and values far outside 0..255.");
        for (Supplier<ChordRing> make : Sample.all()) {
            ChordRing ring = make.get();
            for (int x : Due.OUT_OF_RANGE) {
                Due.due("join(" + x + ")", ring.join(x), ChordRing.ERR_RANGE);
                Due.due("leave(" + x + ")", ring.leave(x), ChordRing.ERR_RANGE);
                Due.due("crash(" + x + ")", ring.crash(x), ChordRing.ERR_RANGE);
                Due.due("put(" + x + ", same)", ring.put(x, x), ChordRing.ERR_RANGE);
                Due.due("remove(" + x + ")", ring.remove(x), ChordRing.ERR_RANGE);
                Due.due("isLive(" + x + ")", ring.isLive(x), false);
                Due.due("valueOf(" + x + ")", ring.valueOf(x), 0);
                Due.due("keysAt(" + x + ")", ring.keysAt(x), 0);
                anyPairs(ring, x);
            }
        }
    }

    private static void anyPairs(ChordRing ring, int x) {
        int[] others = {0, 5, 10, 20, 255, -1, 256, Integer.MIN_VALUE, Integer.MAX_VALUE};
        for (int y : others) {
            String pair = "(" + x + ", " + y + ")";
            String turned = "(" + y + ", " + x + ")";
            Due.due("lookup" + pair, ring.lookup(x, y), ChordRing.NONE);
            Due.due("lookup" + turned, ring.lookup(y, x), ChordRing.NONE);
            Due.due("holds" + pair, ring.holds(x, y), false);
            Due.due("holds" + turned, ring.holds(y, x), false);
            Due.due("holderAt" + pair, ring.holderAt(x, y), ChordRing.NONE);
            Due.due("holderAt" + turned, ring.holderAt(y, x), ChordRing.NONE);
            Due.due("keyAt" + pair, ring.keyAt(x, y), ChordRing.NONE);
            Due.due("keyAt" + turned, ring.keyAt(y, x), ChordRing.NONE);
        }
    }
}
