/** Promises 13 to 15: valueOf, holderAt and holds; a test for each sentence. */
public final class HolderGettersTest {
    public static void main(String[] args) {
        valueOfTellsStoredValues();
        valueOfIs0Otherwise();
        aStoredValueMayBe0();
        holderAtListsInOrder();
        holderAtOutOfRange();
        holderAtNotStored();
        holderAtBelow0();
        holderAtPastTheHolders();
        holderAtGivesDistinctLiveIds();
        holdersAreBetween1AndR();
        holdsTellsTheHolders();
        holdsIsFalseOutOfRange();
        Due.finish();
    }

    /** R 3, nodes 10, 100 and 200 live, 50 crashed; 250 has 10 100, 30 has 100 200, 120 has 200 10 100. */
    private static ChordRing three() {
        ChordRing ring = new ChordRing(8, 8, 3);
        Due.join(ring, 10, 50, 100, 200);
        Due.put(ring, 250, 30, 120);
        Due.due("crash(50)", ring.crash(50), 0);
        Due.put(ring, 120);
        return ring;
    }

    private static void valueOfTellsStoredValues() {
        Due.sentence("answers V(key) if key is in range and stored;");
        ChordRing ring = three();
        Due.put(ring, 0, 255);
        Due.values("stored", ring, 0, 30, 120, 250, 255);
        Due.due("put(30, -1)", ring.put(30, -1), ChordRing.OK);
        Due.due("valueOf(30)", ring.valueOf(30), -1);
        Due.values("the others", ring, 0, 120, 250, 255);
    }

    private static void valueOfIs0Otherwise() {
        Due.sentence("otherwise it answers 0.");
        ChordRing ring = three();
        Due.put(ring, 0, 10, 255);
        for (int key : Due.OUT_OF_RANGE) {
            Due.due("valueOf(" + key + ")", ring.valueOf(key), 0);
        }
        for (int key = 0; key < ChordRing.RING; key++) {
            if (ring.holderAt(key, 0) == ChordRing.NONE) {
                Due.due("valueOf(" + key + ")", ring.valueOf(key), 0);
            }
        }
        Due.due("remove(10)", ring.remove(10), ChordRing.OK);
        Due.due("removed", ring.valueOf(10), 0);
        Due.due("lost by a crash", Sample.crashedOut().valueOf(5), 0);
        Due.due("lost by a leave", Sample.leftEmpty().valueOf(5), 0);
    }

    private static void aStoredValueMayBe0() {
        Due.sentence("A stored value may itself be 0.");
        ChordRing ring = three();
        Due.due("put(60, 0)", ring.put(60, 0), ChordRing.OK);
        Due.due("valueOf(60)", ring.valueOf(60), 0);
        Due.holders("a stored 0", ring, 60, 100, 200, 10);
        Due.due("keyCount()", ring.keyCount(), 4);
        Due.due("put(30, 0) over a value", ring.put(30, 0), ChordRing.OK);
        Due.due("valueOf(30)", ring.valueOf(30), 0);
        Due.due("remove of a stored 0", ring.remove(60), ChordRing.OK);
    }

    private static void holderAtListsInOrder() {
        Due.sentence("answers the holder at position i (0 = first) of H(key), listed in order relative to key.");
        ChordRing ring = three();
        Due.holders("short of a copy, around the top", ring, 250, 10, 100);
        Due.holders("short of a copy", ring, 30, 100, 200);
        Due.holders("whole, around the top", ring, 120, 200, 10, 100);
        Due.join(ring, 120);
        Due.holders("a node on the key", ring, 120, 120, 200, 10);
        Due.join(ring, 119);
        Due.holders("a node one step behind the key", ring, 120, 120, 200, 10);
        Due.join(ring, 121);
        Due.holders("a node one step past the key", ring, 120, 120, 121, 200);
    }

    private static void holderAtOutOfRange() {
        Due.sentence("key is not in range, (holderAt)");
        ChordRing ring = three();
        Due.put(ring, 0, 10, 255);
        for (int key : Due.OUT_OF_RANGE) {
            for (int i = -1; i < 4; i++) {
                Due.due("holderAt(" + key + ", " + i + ")", ring.holderAt(key, i), ChordRing.NONE);
            }
        }
    }

    private static void holderAtNotStored() {
        Due.sentence("key is not stored, (holderAt)");
        ChordRing ring = three();
        for (int key = 0; key < ChordRing.RING; key++) {
            if (key != 30 && key != 120 && key != 250) {
                Due.holders("not stored", ring, key);
            }
        }
        Due.holders("lost by a crash", Sample.crashedOut(), 5);
        Due.holders("lost by a leave", Sample.leftEmpty(), 5);
    }

    private static void holderAtBelow0() {
        Due.sentence("i < 0, or");
        ChordRing ring = three();
        for (int i : new int[] {-1, -2, -3, -253, -255, -256, Integer.MIN_VALUE, Integer.MIN_VALUE + 1}) {
            Due.due("holderAt(120, " + i + ")", ring.holderAt(120, i), ChordRing.NONE);
            Due.due("holderAt(30, " + i + ")", ring.holderAt(30, i), ChordRing.NONE);
        }
    }

    private static void holderAtPastTheHolders() {
        Due.sentence("i >= |H(key)|.");
        ChordRing ring = three();
        Due.due("the last of three", ring.holderAt(120, 2), 100);
        Due.due("the last of two", ring.holderAt(30, 1), 200);
        Due.due("past two, a third live node stands by", ring.holderAt(30, 2), ChordRing.NONE);
        for (int i : new int[] {3, 4, 8, 255, 256, 257, 258, 65536, Integer.MAX_VALUE}) {
            Due.due("holderAt(120, " + i + ")", ring.holderAt(120, i), ChordRing.NONE);
            Due.due("holderAt(30, " + i + ")", ring.holderAt(30, i), ChordRing.NONE);
        }
    }

    private static void holderAtGivesDistinctLiveIds() {
        Due.sentence("For a stored key, positions 0 .. |H(key)|-1 give distinct live ids with strictly"
            + " increasing dist(key, ·).");
        for (int key = 0; key < ChordRing.RING; key++) {
            ChordRing ring = new ChordRing(8, 8, 3);
            Due.join(ring, 0, 100, 101, 254, 255);
            Due.put(ring, key);
            int before = -1;
            for (int i = 0; i < 3; i++) {
                int node = ring.holderAt(key, i);
                Due.due("holder " + node + " of " + key + " is live", ring.isLive(node), true);
                int distance = (node - key + 256) % 256;
                Due.due("holder " + node + " of " + key + " is farther", distance > before, true);
                before = distance;
            }
        }
    }

    private static void holdersAreBetween1AndR() {
        Due.sentence("|H(key)| lies between 1 and R.");
        for (int replicas = 1; replicas <= 3; replicas++) {
            ChordRing ring = new ChordRing(8, 8, replicas);
            Due.join(ring, 10, 20, 30, 40);
            Due.put(ring, 5);
            Due.due("the last of R", ring.holderAt(5, replicas - 1), 10 * replicas);
            Due.due("past R", ring.holderAt(5, replicas), ChordRing.NONE);
            for (int node = 1; node < replicas; node++) {
                Due.due("crash(" + 10 * node + ")", ring.crash(10 * node), 0);
            }
            Due.holders("one holder is left", ring, 5, 10 * replicas);
            Due.due("crash of the last holder", ring.crash(10 * replicas), 1);
            Due.holders("not stored", ring, 5);
        }
    }

    private static void holdsTellsTheHolders() {
        Due.sentence("is true iff key is in range, key is stored, and node is in H(key).");
        ChordRing ring = three();
        for (int node = 0; node < ChordRing.RING; node++) {
            boolean pair = node == 100 || node == 200;
            Due.due("holds(" + node + ", 30)", ring.holds(node, 30), pair);
            Due.due("holds(" + node + ", 120)", ring.holds(node, 120), pair || node == 10);
            Due.due("holds(" + node + ", 250)", ring.holds(node, 250), node == 10 || node == 100);
            Due.due("holds(" + node + ", 31)", ring.holds(node, 31), false);
        }
        ChordRing edges = new ChordRing(8, 8, 1);
        Due.join(edges, 0, 255);
        Due.put(edges, 0, 255);
        Due.due("holds(0, 0)", edges.holds(0, 0), true);
        Due.due("holds(255, 255)", edges.holds(255, 255), true);
        Due.due("holds(0, 255)", edges.holds(0, 255), false);
        Due.due("holds(255, 0)", edges.holds(255, 0), false);
    }

    private static void holdsIsFalseOutOfRange() {
        Due.sentence("It is false for any out-of-range node or key.");
        ChordRing ring = new ChordRing(8, 8, 3);
        Due.join(ring, 0, 10, 255);
        Due.put(ring, 0, 10, 30, 255);
        for (int wrong : Due.OUT_OF_RANGE) {
            for (int right : new int[] {0, 10, 30, 255}) {
                Due.due("holds(" + wrong + ", " + right + ")", ring.holds(wrong, right), false);
                Due.due("holds(" + right + ", " + wrong + ")", ring.holds(right, wrong), false);
            }
            for (int other : Due.OUT_OF_RANGE) {
                Due.due("holds(" + wrong + ", " + other + ")", ring.holds(wrong, other), false);
            }
        }
    }
}
