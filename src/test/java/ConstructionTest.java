/** Promise 1: the clamping of the three arguments, and the starting state. */
public final class ConstructionTest {
    public static void main(String[] args) {
        capacitiesAreClamped();
        replicasAreClamped();
        theDocumentsExample();
        capacitiesOutliveARefill();
        theStartIsEmpty();
        objectsAreApart();
        Due.finish();
    }

    private static void capacitiesAreClamped() {
        int[] given = {Integer.MIN_VALUE, -8, -1, 0, 1, 7, 8, 9, 20, 31, 32, 33, 64, 256, Integer.MAX_VALUE};
        int[] taken = {8, 8, 8, 8, 8, 8, 8, 9, 20, 31, 32, 32, 32, 32, 32};
        for (int i = 0; i < given.length; i++) {
            String nodes = "maxNodes " + given[i];
            Due.due(nodes, nodesThatFit(new ChordRing(given[i], 15, 2)), taken[i]);
            Due.due("maxKeys 15 beside " + nodes, keysThatFit(new ChordRing(given[i], 15, 2)), 15);
            String keys = "maxKeys " + given[i];
            Due.due(keys, keysThatFit(new ChordRing(15, given[i], 2)), taken[i]);
            Due.due("maxNodes 15 beside " + keys, nodesThatFit(new ChordRing(15, given[i], 2)), 15);
        }
    }

    private static void replicasAreClamped() {
        int[] given = {Integer.MIN_VALUE, -5, -1, 0, 1, 2, 3, 4, 10, Integer.MAX_VALUE};
        int[] taken = {1, 1, 1, 1, 1, 2, 3, 3, 3, 3};
        for (int i = 0; i < given.length; i++) {
            Due.due("replicas " + given[i], copiesMade(new ChordRing(8, 8, given[i])), taken[i]);
        }
    }

    private static void theDocumentsExample() {
        Due.due("(0, 100, -5) maxNodes", nodesThatFit(new ChordRing(0, 100, -5)), 8);
        Due.due("(0, 100, -5) maxKeys", keysThatFit(new ChordRing(0, 100, -5)), 32);
        Due.due("(0, 100, -5) R", copiesMade(new ChordRing(0, 100, -5)), 1);
    }

    private static void capacitiesOutliveARefill() {
        ChordRing ring = new ChordRing(9, 10, 2);
        for (int round = 0; round < 3; round++) {
            Due.due("nodes in round " + round, nodesThatFit(ring), 9);
            Due.due("keys in round " + round, keysThatFit(ring), 10);
            Due.due("copies in round " + round, copiesMade(ring), 2);
            for (int id = 0; id < ChordRing.RING; id++) {
                int unused = round == 0 ? ring.crash(id) : ring.leave(id);
            }
            Due.counts("emptied", ring, 0, 0, round == 0 ? 9 : 0);
        }
    }

    private static void theStartIsEmpty() {
        ChordRing ring = new ChordRing(8, 8, 3);
        Due.counts("start", ring, 0, 0, 0);
        for (int a = -3; a < ChordRing.RING + 3; a++) {
            Due.due("isLive(" + a + ")", ring.isLive(a), false);
            Due.due("valueOf(" + a + ")", ring.valueOf(a), 0);
            Due.due("keysAt(" + a + ")", ring.keysAt(a), 0);
            for (int b = -3; b < ChordRing.RING + 3; b++) {
                Due.due("holds(" + a + ", " + b + ")", ring.holds(a, b), false);
                Due.due("lookup(" + a + ", " + b + ")", ring.lookup(a, b), ChordRing.NONE);
            }
            for (int i = -2; i < 5; i++) {
                Due.due("holderAt(" + a + ", " + i + ")", ring.holderAt(a, i), ChordRing.NONE);
                Due.due("keyAt(" + a + ", " + i + ")", ring.keyAt(a, i), ChordRing.NONE);
            }
        }
    }

    private static void objectsAreApart() {
        ChordRing one = new ChordRing(8, 8, 3);
        ChordRing other = new ChordRing(32, 32, 1);
        String empty = Due.state(other);
        Due.join(one, 1, 2, 3);
        Due.put(one, 4, 5);
        one.crash(1);
        Due.same("the other object", Due.state(other), empty);
        Due.due("maxNodes of the other", nodesThatFit(other), 32);
        Due.due("R of the other", copiesMade(other), 1);
        Due.due("maxNodes of the one", nodesThatFit(one), 8);
        Due.due("R of the one", copiesMade(one), 3);
    }

    /** Joins nodes until one is refused; answers the number of live ones. */
    private static int nodesThatFit(ChordRing ring) {
        for (int id = 0; id < ChordRing.RING; id++) {
            if (ring.join(id) == ChordRing.ERR_FULL) {
                return ring.nodeCount();
            }
        }
        return -1;
    }

    private static int keysThatFit(ChordRing ring) {
        ring.join(0);
        for (int key = 0; key < ChordRing.RING; key++) {
            if (ring.put(key, key) == ChordRing.ERR_FULL) {
                return ring.keyCount();
            }
        }
        return -1;
    }

    private static int copiesMade(ChordRing ring) {
        for (int id = 0; id < 8; id++) {
            ring.join(id * 20);
        }
        ring.put(0, 1);
        int count = 0;
        for (int id = 0; id < ChordRing.RING; id++) {
            if (ring.holds(id, 0)) {
                count++;
            }
        }
        return count;
    }
}
