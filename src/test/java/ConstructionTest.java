/** Promise 1: the clamping of the three arguments, and the starting state; a test for each sentence. */
public final class ConstructionTest {
    public static void main(String[] args) {
        anyIntsAreAccepted();
        valuesWithinAreTaken();
        belowTheLeast();
        aboveTheGreatest();
        theExamples();
        theNumbersDoNotChange();
        theCountsAreZeroAtTheStart();
        isLiveAndHoldsAreFalseAtTheStart();
        lookupHolderAtAndKeyAtAreNoneAtTheStart();
        valueOfAndKeysAtAreZeroAtTheStart();
        objectsAreApart();
        Due.finish();
    }

    private static void anyIntsAreAccepted() {
        Due.sentence("accepts any ints.");
        int[] any = {Integer.MIN_VALUE, -1, 0, 2, 8, 20, 33, Integer.MAX_VALUE};
        for (int nodes : any) {
            for (int keys : any) {
                for (int replicas : any) {
                    String made = "(" + nodes + ", " + keys + ", " + replicas + ")";
                    clampedTo(made, nodes, keys, replicas, within(nodes, 8, 32), within(keys, 8, 32),
                        within(replicas, 1, 3));
                }
            }
        }
    }

    private static void valuesWithinAreTaken() {
        Due.sentence("It clamps maxNodes into 8..32, maxKeys into 8..32 and replicas (R) into 1..3.");
        for (int size = 8; size <= 32; size++) {
            clampedTo("maxNodes " + size, size, 15, 2, size, 15, 2);
            clampedTo("maxKeys " + size, 15, size, 2, 15, size, 2);
        }
        for (int replicas = 1; replicas <= 3; replicas++) {
            clampedTo("replicas " + replicas, 15, 16, replicas, 15, 16, replicas);
        }
    }

    private static void belowTheLeast() {
        Due.sentence("A value below the least becomes the least,");
        int[] low = {7, 6, 1, 0, -1, -8, -32, -256, Integer.MIN_VALUE + 8, Integer.MIN_VALUE};
        for (int size : low) {
            clampedTo("maxNodes " + size, size, 15, 2, 8, 15, 2);
            clampedTo("maxKeys " + size, 15, size, 2, 15, 8, 2);
        }
        int[] none = {0, -1, -2, -3, -256, Integer.MIN_VALUE + 2, Integer.MIN_VALUE};
        for (int replicas : none) {
            clampedTo("replicas " + replicas, 15, 16, replicas, 15, 16, 1);
        }
    }

    private static void aboveTheGreatest() {
        Due.sentence("and a value above the greatest becomes the greatest.");
        int[] high = {33, 34, 40, 64, 255, 256, 264, 65544, Integer.MAX_VALUE};
        for (int size : high) {
            clampedTo("maxNodes " + size, size, 15, 2, 32, 15, 2);
            clampedTo("maxKeys " + size, 15, size, 2, 15, 32, 2);
        }
        int[] many = {4, 5, 8, 32, 257, 258, Integer.MAX_VALUE};
        for (int replicas : many) {
            clampedTo("replicas " + replicas, 15, 16, replicas, 15, 16, 3);
        }
    }

    private static void theExamples() {
        Due.sentence("For example, (0, 100, -5) gives maxNodes 8, maxKeys 32, R 1,");
        clampedTo("(0, 100, -5)", 0, 100, -5, 8, 32, 1);
        Due.sentence("and Integer.MIN_VALUE for maxNodes gives 8.");
        clampedTo("MIN_VALUE", Integer.MIN_VALUE, 20, 3, 8, 20, 3);
    }

    private static void theNumbersDoNotChange() {
        Due.sentence("These three clamped numbers do not change for the life of the object.");
        ChordRing ring = new ChordRing(9, 10, 2);
        for (int round = 0; round < 6; round++) {
            Due.due("nodes in round " + round, nodesThatFit(ring), 9);
            Due.due("keys in round " + round, keysThatFit(ring), 10);
            Due.due("copies in round " + round, copiesMade(ring), 2);
            Due.due("stabilise in round " + round, ring.stabilise(), 0);
            for (int id = 0; id < ChordRing.RING; id++) {
                int unused = round % 2 == 0 ? ring.crash(id) : ring.leave(id);
            }
            Due.counts("emptied in round " + round, ring, 0, 0, round % 2 == 0 ? 9 : 0);
        }
    }

    private static void theCountsAreZeroAtTheStart() {
        Due.sentence("So nodeCount() == 0, keyCount() == 0 and pendingCrashes() == 0.");
        Due.counts("start", new ChordRing(8, 8, 3), 0, 0, 0);
        Due.counts("start", new ChordRing(32, 32, 1), 0, 0, 0);
        Due.counts("start", new ChordRing(Integer.MIN_VALUE, Integer.MAX_VALUE, 0), 0, 0, 0);
    }

    private static void isLiveAndHoldsAreFalseAtTheStart() {
        Due.sentence("Every isLive and holds answers false.");
        ChordRing ring = new ChordRing(8, 8, 3);
        for (int a = -3; a < ChordRing.RING + 3; a++) {
            Due.due("isLive(" + a + ")", ring.isLive(a), false);
            for (int b = -3; b < ChordRing.RING + 3; b++) {
                Due.due("holds(" + a + ", " + b + ")", ring.holds(a, b), false);
            }
        }
    }

    private static void lookupHolderAtAndKeyAtAreNoneAtTheStart() {
        Due.sentence("Every lookup, holderAt and keyAt answers NONE.");
        ChordRing ring = new ChordRing(8, 8, 3);
        for (int a = -3; a < ChordRing.RING + 3; a++) {
            for (int b = -3; b < ChordRing.RING + 3; b++) {
                Due.due("lookup(" + a + ", " + b + ")", ring.lookup(a, b), ChordRing.NONE);
                Due.due("holderAt(" + a + ", " + b + ")", ring.holderAt(a, b), ChordRing.NONE);
                Due.due("keyAt(" + a + ", " + b + ")", ring.keyAt(a, b), ChordRing.NONE);
            }
        }
    }

    private static void valueOfAndKeysAtAreZeroAtTheStart() {
        Due.sentence("Every valueOf and keysAt answers 0.");
        ChordRing ring = new ChordRing(8, 8, 3);
        for (int a = -3; a < ChordRing.RING + 3; a++) {
            Due.due("valueOf(" + a + ")", ring.valueOf(a), 0);
            Due.due("keysAt(" + a + ")", ring.keysAt(a), 0);
        }
    }

    private static void objectsAreApart() {
        Due.sentence("At the start LIVE is empty, STORE is empty and P = 0.");
        ChordRing one = new ChordRing(8, 8, 3);
        Due.join(one, 1, 2, 3);
        Due.put(one, 4, 5);
        Due.due("crash(1)", one.crash(1), 0);
        ChordRing other = new ChordRing(32, 32, 1);
        Due.live("a second object", other);
        Due.counts("a second object", other, 0, 0, 0);
        Due.due("maxNodes of the second", nodesThatFit(other), 32);
        Due.due("R of the second", copiesMade(other), 1);
        Due.counts("the first object", one, 2, 2, 1);
        Due.due("maxNodes of the first", nodesThatFit(one), 8);
        Due.due("R of the first", copiesMade(one), 3);
    }

    private static int within(int value, int least, int greatest) {
        return value < least ? least : value > greatest ? greatest : value;
    }

    private static void clampedTo(String made, int nodes, int keys, int replicas,
            int maxNodes, int maxKeys, int copies) {
        Due.due(made + ": maxNodes", nodesThatFit(new ChordRing(nodes, keys, replicas)), maxNodes);
        Due.due(made + ": maxKeys", keysThatFit(new ChordRing(nodes, keys, replicas)), maxKeys);
        Due.due(made + ": R", copiesMade(new ChordRing(nodes, keys, replicas)), copies);
    }

    /** Joins nodes until one is refused; answers the number of live ones. */
    private static int nodesThatFit(ChordRing ring) {
        for (int id = 0; id < ChordRing.RING; id++) {
            if (ring.join(id) == ChordRing.ERR_FULL) {
                return ring.nodeCount();
            }
        }
        return -1;
    }

    private static int keysThatFit(ChordRing ring) {
        ring.join(0);
        for (int key = 0; key < ChordRing.RING; key++) {
            if (ring.put(key, key) == ChordRing.ERR_FULL) {
                return ring.keyCount();
            }
        }
        return -1;
    }

    private static int copiesMade(ChordRing ring) {
        for (int id = 0; id < 8; id++) {
            ring.join(id * 20);
        }
        ring.put(0, 1);
        int count = 0;
        for (int id = 0; id < ChordRing.RING; id++) {
            if (ring.holds(id, 0)) {
                count++;
            }
        }
        return count;
    }
}
