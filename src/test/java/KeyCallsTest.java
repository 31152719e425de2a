/** Promises 6 and 7: put and remove. */
public final class KeyCallsTest {
    public static void main(String[] args) {
        putAnswersInOrder();
        putTakesEveryKeyAndValue();
        putOverwrites();
        putTakesTheLiveNodesOfNow();
        putLeavesOtherKeysBroken();
        removeAnswersInOrder();
        removeLeavesNothingOfTheKey();
        removeMakesRoom();
        Due.finish();
    }

    private static void putAnswersInOrder() {
        ChordRing ring = new ChordRing(8, 8, 2);
        for (int key : Due.OUT_OF_RANGE) {
            Due.due("put(" + key + ") without nodes", ring.put(key, 1), ChordRing.ERR_RANGE);
        }
        for (int key = 0; key < ChordRing.RING; key++) {
            Due.due("put(" + key + ") without nodes", ring.put(key, 1), ChordRing.ERR_EMPTY);
        }
        Due.counts("refused puts", ring, 0, 0, 0);
        Due.join(ring, 10, 20, 30);
        Due.put(ring, 1, 2, 3, 4, 5, 6, 7, 8);
        ring.crash(10);
        String before = Due.state(ring);
        Due.due("put(9) on a full store", ring.put(9, 1), ChordRing.ERR_FULL);
        Due.due("put(0) on a full store", ring.put(0, 1), ChordRing.ERR_FULL);
        for (int key : Due.OUT_OF_RANGE) {
            Due.due("put(" + key + ") on a full store", ring.put(key, 1), ChordRing.ERR_RANGE);
        }
        Due.same("refused puts", Due.state(ring), before);
        Due.due("overwriting on a full store", ring.put(8, -8), ChordRing.OK);
        Due.due("the new value", ring.valueOf(8), -8);
        Due.counts("overwritten", ring, 2, 8, 1);
    }

    private static void putTakesEveryKeyAndValue() {
        int[] values = {0, 1, -1, 255, 256, Integer.MIN_VALUE, Integer.MAX_VALUE};
        for (int key = 0; key < ChordRing.RING; key++) {
            ChordRing ring = new ChordRing(8, 8, 1);
            Due.join(ring, 128);
            for (int value : values) {
                Due.due("put(" + key + ", " + value + ")", ring.put(key, value), ChordRing.OK);
                Due.due("valueOf(" + key + ")", ring.valueOf(key), value);
                Due.due("keyCount()", ring.keyCount(), 1);
                Due.holders("only node", ring, key, 128);
            }
        }
    }

    private static void putOverwrites() {
        ChordRing ring = new ChordRing(8, 8, 2);
        Due.join(ring, 10, 20, 30);
        Due.put(ring, 5, 15);
        Due.due("put(5, 0)", ring.put(5, 0), ChordRing.OK);
        Due.due("valueOf(5)", ring.valueOf(5), 0);
        Due.holders("a stored 0", ring, 5, 10, 20);
        Due.due("the other value", ring.valueOf(15), 151);
        Due.counts("overwritten", ring, 3, 2, 0);
    }

    private static void putTakesTheLiveNodesOfNow() {
        ChordRing ring = new ChordRing(8, 8, 3);
        Due.join(ring, 10, 20, 30, 40);
        Due.put(ring, 5);
        ring.crash(20);
        Due.holders("crashed", ring, 5, 10, 30);
        Due.put(ring, 5, 6, 35);
        Due.holders("put again", ring, 5, 10, 30, 40);
        Due.holders("new key", ring, 6, 10, 30, 40);
        Due.holders("new key", ring, 35, 40, 10, 30);
        Due.counts("crash still pending", ring, 3, 3, 1);
        ring.crash(40);
        Due.holders("crashed again", ring, 35, 10, 30);
        Due.put(ring, 35);
        Due.holders("fewer nodes than replicas", ring, 35, 10, 30);
        Due.counts("crashes still pending", ring, 2, 3, 2);
    }

    private static void putLeavesOtherKeysBroken() {
        ChordRing ring = new ChordRing(8, 8, 2);
        Due.join(ring, 10, 20, 30);
        Due.put(ring, 5, 6, 15);
        ring.crash(10);
        Due.put(ring, 5, 7);
        Due.holders("not put", ring, 6, 20);
        Due.holders("not put", ring, 15, 20, 30);
        Due.holders("put", ring, 5, 20, 30);
        Due.holders("put", ring, 7, 20, 30);
        Due.due("only the broken key is repaired", ring.stabilise(), 1);
    }

    private static void removeAnswersInOrder() {
        ChordRing ring = new ChordRing(8, 8, 2);
        for (int key = 0; key < ChordRing.RING; key++) {
            Due.due("remove(" + key + ") at the start", ring.remove(key), ChordRing.ERR_NO_KEY);
        }
        Due.join(ring, 10, 20, 30);
        Due.put(ring, 5, 15);
        ring.crash(20);
        String before = Due.state(ring);
        for (int key : Due.OUT_OF_RANGE) {
            Due.due("remove(" + key + ")", ring.remove(key), ChordRing.ERR_RANGE);
        }
        Due.due("remove of a node's id", ring.remove(10), ChordRing.ERR_NO_KEY);
        Due.due("remove(6)", ring.remove(6), ChordRing.ERR_NO_KEY);
        Due.same("refused removes", Due.state(ring), before);
        Due.due("remove(5)", ring.remove(5), ChordRing.OK);
        Due.due("remove(5) again", ring.remove(5), ChordRing.ERR_NO_KEY);
        Due.counts("removed once", ring, 2, 1, 1);
    }

    private static void removeLeavesNothingOfTheKey() {
        ChordRing ring = new ChordRing(8, 8, 3);
        Due.join(ring, 10, 20, 30, 40);
        Due.put(ring, 0, 5, 15, 255);
        ring.crash(40);
        Due.due("remove(5)", ring.remove(5), ChordRing.OK);
        Due.due("valueOf(5)", ring.valueOf(5), 0);
        Due.holders("removed", ring, 5);
        for (int node = 0; node < ChordRing.RING; node++) {
            Due.due("holds(" + node + ", 5)", ring.holds(node, 5), false);
        }
        Due.keys("removed", ring, 10, 0, 255);
        Due.keys("removed", ring, 20, 0, 15, 255);
        Due.keys("removed", ring, 30, 0, 15, 255);
        Due.counts("removed", ring, 3, 3, 1);
        Due.holders("another key", ring, 15, 20, 30);
        Due.due("another value", ring.valueOf(15), 151);
        Due.due("remove(0)", ring.remove(0), ChordRing.OK);
        Due.due("remove(255)", ring.remove(255), ChordRing.OK);
        Due.due("only key 15 lacks a copy", ring.stabilise(), 1);
        Due.counts("stabilised", ring, 3, 1, 0);
    }

    private static void removeMakesRoom() {
        ChordRing ring = new ChordRing(8, 8, 1);
        Due.join(ring, 10);
        Due.put(ring, 1, 2, 3, 4, 5, 6, 7, 8);
        for (int key = 1; key < 100; key++) {
            Due.due("put past the end", ring.put(key + 8, 0), ChordRing.ERR_FULL);
            Due.due("remove(" + key + ")", ring.remove(key), ChordRing.OK);
            Due.put(ring, key + 8);
            Due.due("keyCount()", ring.keyCount(), 8);
        }
    }
}
