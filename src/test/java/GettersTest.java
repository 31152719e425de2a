/** Promises 8 to 17: the getters, and that none of them changes anything. */
public final class GettersTest {
    public static void main(String[] args) {
        isLiveTellsTheLiveNodes();
        nodeCountFollowsJoinsAndDepartures();
        keyCountFollowsTheStore();
        pendingCrashesCounts();
        lookupFindsTheFirstLiveNode();
        lookupWithWrongArguments();
        valueOfTellsStoredValues();
        holderAtListsInOrder();
        holdsTellsTheHolders();
        keysAtCounts();
        keyAtListsAscending();
        gettersChangeNothing();
        Due.finish();
    }

    /** Nodes 10, 100 and 200 live, 50 crashed; key 250 short of a copy, key 120 whole. */
    private static ChordRing sample() {
        ChordRing ring = new ChordRing(8, 8, 3);
        Due.join(ring, 10, 50, 100, 200);
        Due.put(ring, 250, 30, 120);
        Due.due("crash(50)", ring.crash(50), 0);
        Due.put(ring, 120);
        return ring;
    }

    private static void isLiveTellsTheLiveNodes() {
        ChordRing ring = sample();
        for (int id = 0; id < ChordRing.RING; id++) {
            Due.due("isLive(" + id + ")", ring.isLive(id), id == 10 || id == 100 || id == 200);
        }
        Due.join(ring, 0, 255);
        Due.due("isLive(0)", ring.isLive(0), true);
        Due.due("isLive(255)", ring.isLive(255), true);
        for (int id : Due.OUT_OF_RANGE) {
            Due.due("isLive(" + id + ")", ring.isLive(id), false);
        }
        ring.leave(255);
        Due.due("isLive(255)", ring.isLive(255), false);
    }

    private static void nodeCountFollowsJoinsAndDepartures() {
        ChordRing ring = new ChordRing(32, 8, 1);
        for (int id = 0; id < 32; id++) {
            Due.join(ring, id * 8);
            Due.due("nodeCount()", ring.nodeCount(), id + 1);
        }
        ring.join(1);
        Due.due("nodeCount() past the end", ring.nodeCount(), 32);
        for (int id = 0; id < 32; id++) {
            int answer = id % 2 == 0 ? ring.leave(id * 8) : ring.crash(id * 8);
            Due.due("departure", answer, 0);
            Due.due("nodeCount()", ring.nodeCount(), 31 - id);
        }
        ring.leave(0);
        Due.due("nodeCount() below the start", ring.nodeCount(), 0);
    }

    private static void keyCountFollowsTheStore() {
        ChordRing ring = new ChordRing(8, 32, 1);
        Due.join(ring, 100, 200);
        for (int i = 0; i < 32; i++) {
            Due.put(ring, i * 8);
            Due.put(ring, i * 8);
            Due.due("keyCount()", ring.keyCount(), i + 1);
        }
        ring.put(1, 1);
        Due.due("keyCount() past the end", ring.keyCount(), 32);
        Due.due("remove(0)", ring.remove(0), ChordRing.OK);
        Due.due("keyCount()", ring.keyCount(), 31);
        Due.due("crash(200), keys 104 to 200", ring.crash(200), 13);
        Due.due("keyCount()", ring.keyCount(), 18);
        ring.leave(100);
        Due.due("keyCount() without nodes", ring.keyCount(), 0);
    }

    private static void pendingCrashesCounts() {
        ChordRing ring = new ChordRing(32, 8, 2);
        for (int id = 0; id < 20; id++) {
            Due.join(ring, id);
        }
        for (int id = 0; id < 10; id++) {
            ring.crash(id);
            ring.crash(id);
            Due.put(ring, 50);
            ring.remove(50);
            ring.put(256, 1);
            Due.due("pendingCrashes()", ring.pendingCrashes(), id + 1);
        }
        ring.leave(10);
        Due.due("pendingCrashes() after a leave", ring.pendingCrashes(), 0);
        ring.crash(11);
        ring.join(12);
        ring.leave(11);
        Due.due("pendingCrashes() after refused calls", ring.pendingCrashes(), 1);
        ring.join(11);
        Due.due("pendingCrashes() after a join", ring.pendingCrashes(), 0);
        ring.crash(11);
        ring.crash(12);
        Due.due("pendingCrashes()", ring.pendingCrashes(), 2);
        ring.stabilise();
        Due.due("pendingCrashes() after stabilise", ring.pendingCrashes(), 0);
    }

    private static void lookupFindsTheFirstLiveNode() {
        ChordRing ring = sample();
        int[] live = {10, 100, 200};
        for (int from : live) {
            for (int key = 0; key < ChordRing.RING; key++) {
                int want = key <= 10 || key > 200 ? 10 : key <= 100 ? 100 : 200;
                Due.due("lookup(" + from + ", " + key + ")", ring.lookup(from, key), want);
            }
        }
        ChordRing wrap = new ChordRing(8, 8, 1);
        Due.join(wrap, 10, 100);
        Due.due("the document's wrap-around", wrap.lookup(100, 250), 10);
        ChordRing edges = new ChordRing(8, 8, 1);
        Due.join(edges, 0, 255);
        Due.due("lookup(0, 255)", edges.lookup(0, 255), 255);
        Due.due("lookup(255, 0)", edges.lookup(255, 0), 0);
        Due.due("lookup(0, 1)", edges.lookup(0, 1), 255);
    }

    private static void lookupWithWrongArguments() {
        ChordRing ring = sample();
        for (int wrong : Due.OUT_OF_RANGE) {
            Due.due("lookup(" + wrong + ", 30)", ring.lookup(wrong, 30), ChordRing.NONE);
            Due.due("lookup(10, " + wrong + ")", ring.lookup(10, wrong), ChordRing.NONE);
            Due.due("lookup(50, " + wrong + ")", ring.lookup(50, wrong), ChordRing.NONE);
            Due.due("lookup(" + wrong + ", same)", ring.lookup(wrong, wrong), ChordRing.NONE);
        }
        Due.due("lookup at a crashed node", ring.lookup(50, 30), ChordRing.NONE);
        Due.due("lookup at no node", ring.lookup(11, 30), ChordRing.NONE);
    }

    private static void valueOfTellsStoredValues() {
        ChordRing ring = sample();
        for (int key = 0; key < ChordRing.RING; key++) {
            boolean stored = key == 30 || key == 120 || key == 250;
            Due.due("valueOf(" + key + ")", ring.valueOf(key), stored ? 10 * key + 1 : 0);
        }
        Due.put(ring, 0, 255);
        Due.due("valueOf(0)", ring.valueOf(0), 1);
        Due.due("valueOf(255)", ring.valueOf(255), 2551);
        for (int key : Due.OUT_OF_RANGE) {
            Due.due("valueOf(" + key + ")", ring.valueOf(key), 0);
        }
    }

    private static void holderAtListsInOrder() {
        ChordRing ring = sample();
        Due.holders("short of a copy, around the top", ring, 250, 10, 100);
        Due.holders("short of a copy", ring, 30, 100, 200);
        Due.holders("whole", ring, 120, 200, 10, 100);
        Due.holders("not stored", ring, 121);
        int[] positions = {-1, -2, 3, 4, 253, 256, Integer.MIN_VALUE, Integer.MAX_VALUE};
        for (int i : positions) {
            Due.due("holderAt(120, " + i + ")", ring.holderAt(120, i), ChordRing.NONE);
        }
        for (int key : Due.OUT_OF_RANGE) {
            Due.due("holderAt(" + key + ", 0)", ring.holderAt(key, 0), ChordRing.NONE);
        }
        Due.join(ring, 120);
        Due.holders("a node on the key", ring, 120, 120, 200, 10);
        Due.join(ring, 119);
        Due.holders("a node one step behind the key", ring, 120, 120, 200, 10);
    }

    private static void holdsTellsTheHolders() {
        ChordRing ring = sample();
        for (int node = 0; node < ChordRing.RING; node++) {
            boolean pair = node == 100 || node == 200;
            Due.due("holds(" + node + ", 30)", ring.holds(node, 30), pair);
            Due.due("holds(" + node + ", 120)", ring.holds(node, 120), pair || node == 10);
            Due.due("holds(" + node + ", 250)", ring.holds(node, 250), node == 10 || node == 100);
            Due.due("holds(" + node + ", 31)", ring.holds(node, 31), false);
        }
        for (int wrong : Due.OUT_OF_RANGE) {
            Due.due("holds(" + wrong + ", 30)", ring.holds(wrong, 30), false);
            Due.due("holds(100, " + wrong + ")", ring.holds(100, wrong), false);
            Due.due("holds(" + wrong + ", same)", ring.holds(wrong, wrong), false);
        }
    }

    private static void keysAtCounts() {
        ChordRing ring = sample();
        for (int node = 0; node < ChordRing.RING; node++) {
            int want = node == 10 || node == 200 ? 2 : node == 100 ? 3 : 0;
            Due.due("keysAt(" + node + ")", ring.keysAt(node), want);
        }
        for (int node : Due.OUT_OF_RANGE) {
            Due.due("keysAt(" + node + ")", ring.keysAt(node), 0);
        }
    }

    private static void keyAtListsAscending() {
        ChordRing ring = sample();
        Due.keys("sample", ring, 10, 120, 250);
        Due.keys("sample", ring, 100, 30, 120, 250);
        Due.keys("sample", ring, 200, 30, 120);
        Due.keys("crashed", ring, 50);
        Due.keys("no node", ring, 11);
        Due.put(ring, 255, 0);
        Due.keys("with the edges", ring, 100, 0, 30, 120, 250, 255);
        int[] positions = {-1, -2, 5, 6, 256, Integer.MIN_VALUE, Integer.MAX_VALUE};
        for (int index : positions) {
            Due.due("keyAt(100, " + index + ")", ring.keyAt(100, index), ChordRing.NONE);
            Due.due("keyAt(50, " + index + ")", ring.keyAt(50, index), ChordRing.NONE);
        }
        for (int node : Due.OUT_OF_RANGE) {
            Due.due("keyAt(" + node + ", 0)", ring.keyAt(node, 0), ChordRing.NONE);
            Due.due("keyAt(" + node + ", -1)", ring.keyAt(node, -1), ChordRing.NONE);
        }
    }

    private static void gettersChangeNothing() {
        ChordRing ring = sample();
        String before = Due.state(ring);
        for (int a = -2; a < ChordRing.RING + 2; a++) {
            for (int b = -2; b < ChordRing.RING + 2; b++) {
                ring.lookup(a, b);
                ring.holds(a, b);
                ring.holderAt(a, b);
                ring.keyAt(a, b);
            }
            ring.isLive(a);
            ring.valueOf(a);
            ring.keysAt(a);
        }
        Due.same("after every getter", Due.state(ring), before);
        Due.due("what is left to repair", ring.stabilise(), 2);
    }
}
