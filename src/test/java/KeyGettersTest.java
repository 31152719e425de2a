/** Promises 16 and 17: keysAt and keyAt; a test for each sentence. */
public final class KeyGettersTest {
    public static void main(String[] args) {
        keysAtCountsHeldKeys();
        keysAtIs0OutOfRange();
        keysAtIs0NotLive();
        keysAtFrom0ToKeyCount();
        keyAtListsAscending();
        keyAt0IsTheSmallest();
        keyAtOutOfRange();
        keyAtBelow0();
        keyAtPastTheKeys();
        keyAtNotLive();
        Due.finish();
    }

    private static void keysAtCountsHeldKeys() {
        Due.sentence("answers the number of stored keys k with node in H(k).");
        ChordRing whole = Sample.whole();
        Due.due("whole: keysAt(10)", whole.keysAt(10), 3);
        Due.due("whole: keysAt(20)", whole.keysAt(20), 3);
        Due.due("whole: keysAt(30)", whole.keysAt(30), 1);
        Due.due("whole: keysAt(40)", whole.keysAt(40), 1);
        ChordRing broken = Sample.broken();
        Due.due("broken: keysAt(10)", broken.keysAt(10), 3);
        Due.due("broken: keysAt(30)", broken.keysAt(30), 1);
        broken.stabilise();
        Due.due("mended: keysAt(30)", broken.keysAt(30), 3);
        Due.due("remove(250)", broken.remove(250), ChordRing.OK);
        Due.due("removed: keysAt(30)", broken.keysAt(30), 2);
    }

    private static void keysAtIs0OutOfRange() {
        Due.sentence("The answer is 0 if node is not in range");
        ChordRing ring = new ChordRing(8, 8, 3);
        Due.join(ring, 0, 10, 255);
        Due.put(ring, 0, 10, 255);
        for (int node : Due.OUT_OF_RANGE) {
            Due.due("keysAt(" + node + ")", ring.keysAt(node), 0);
        }
    }

    private static void keysAtIs0NotLive() {
        Due.sentence("or not live.");
        ChordRing ring = Sample.broken();
        for (int node = 0; node < ChordRing.RING; node++) {
            if (!ring.isLive(node)) {
                Due.due("keysAt(" + node + ")", ring.keysAt(node), 0);
            }
        }
        Due.due("leave(10)", ring.leave(10), ChordRing.OK);
        Due.due("keysAt(10), it has left", ring.keysAt(10), 0);
        Due.due("keysAt(20), all crashed", Sample.crashedOut().keysAt(20), 0);
        Due.due("keysAt(20), all left", Sample.leftEmpty().keysAt(20), 0);
    }

    private static void keysAtFrom0ToKeyCount() {
        Due.sentence("Otherwise it is from 0 to keyCount().");
        ChordRing ring = new ChordRing(8, 32, 1);
        Due.join(ring, 128);
        Due.due("a live node without keys", ring.keysAt(128), 0);
        for (int i = 0; i < 32; i++) {
            Due.put(ring, 8 * i);
            Due.due("one node holds every key", ring.keysAt(128), i + 1);
        }
        Due.join(ring, 127);
        Due.due("a node that took none but its own", ring.keysAt(128), 1);
        Due.due("a node that took the rest", ring.keysAt(127), 31);
        Due.due("remove(128)", ring.remove(128), ChordRing.OK);
        Due.due("a live node without keys", ring.keysAt(128), 0);
        Due.due("all keys", ring.keysAt(127), ring.keyCount());
    }

    private static void keyAtListsAscending() {
        Due.sentence("considers the stored keys k with node in H(k), listed by ascending numeric value of k.");
        ChordRing whole = Sample.whole();
        Due.keys("whole", whole, 10, 5, 35, 250);
        Due.keys("whole", whole, 20, 5, 15, 250);
        Due.keys("whole", whole, 30, 15);
        Due.keys("whole", whole, 40, 35);
        ChordRing one = Sample.fresh();
        Due.join(one, 128);
        Due.put(one, 255, 129, 128, 0, 127, 200, 1, 254);
        Due.keys("one node", one, 128, 0, 1, 127, 128, 129, 200, 254, 255);
    }

    private static void keyAt0IsTheSmallest() {
        Due.sentence("It answers the key at position index, where 0 is the smallest.");
        ChordRing ring = Sample.fresh();
        Due.join(ring, 100);
        for (int key : new int[] {255, 200, 101, 100, 99, 50, 1, 0}) {
            Due.put(ring, key);
            Due.due("keyAt(100, 0)", ring.keyAt(100, 0), key);
            Due.due("the greatest", ring.keyAt(100, ring.keyCount() - 1), 255);
        }
        Due.due("remove(0)", ring.remove(0), ChordRing.OK);
        Due.due("keyAt(100, 0)", ring.keyAt(100, 0), 1);
    }

    private static void keyAtOutOfRange() {
        Due.sentence("node is not in range, (keyAt)");
        ChordRing ring = new ChordRing(8, 8, 3);
        Due.join(ring, 0, 10, 255);
        Due.put(ring, 0, 10, 255);
        for (int node : Due.OUT_OF_RANGE) {
            for (int index = -1; index < 4; index++) {
                Due.due("keyAt(" + node + ", " + index + ")", ring.keyAt(node, index), ChordRing.NONE);
            }
        }
    }

    private static void keyAtBelow0() {
        Due.sentence("index < 0, or");
        ChordRing ring = Sample.whole();
        for (int index : new int[] {-1, -2, -3, -253, -255, -256, Integer.MIN_VALUE + 1, Integer.MIN_VALUE}) {
            Due.due("keyAt(10, " + index + ")", ring.keyAt(10, index), ChordRing.NONE);
            Due.due("keyAt(30, " + index + ")", ring.keyAt(30, index), ChordRing.NONE);
        }
    }

    private static void keyAtPastTheKeys() {
        Due.sentence("index >= keysAt(node).");
        ChordRing ring = Sample.whole();
        Due.due("the last of three", ring.keyAt(10, 2), 250);
        Due.due("the only one", ring.keyAt(30, 0), 15);
        Due.due("past the only one", ring.keyAt(30, 1), ChordRing.NONE);
        for (int index : new int[] {3, 4, 8, 32, 255, 256, 257, 65536, Integer.MAX_VALUE}) {
            Due.due("keyAt(10, " + index + ")", ring.keyAt(10, index), ChordRing.NONE);
            Due.due("keyAt(30, " + index + ")", ring.keyAt(30, index), ChordRing.NONE);
        }
        Due.join(ring, 200);
        Due.due("leave(40)", ring.leave(40), ChordRing.OK);
        Due.due("remove(35)", ring.remove(35), ChordRing.OK);
        Due.due("a live node without keys", ring.keyAt(200, 0), ChordRing.NONE);
    }

    private static void keyAtNotLive() {
        Due.sentence("In particular, for an in-range node that is not live, keysAt(node) is 0, so every"
            + " index gives NONE.");
        ChordRing ring = Sample.broken();
        for (int node : new int[] {0, 5, 15, 20, 255}) {
            Due.due("keysAt(" + node + ")", ring.keysAt(node), 0);
            for (int index = -3; index < 260; index++) {
                Due.due("keyAt(" + node + ", " + index + ")", ring.keyAt(node, index), ChordRing.NONE);
            }
        }
        for (int index = -1; index < 3; index++) {
            Due.due("all crashed", Sample.crashedOut().keyAt(20, index), ChordRing.NONE);
            Due.due("all left", Sample.leftEmpty().keyAt(20, index), ChordRing.NONE);
        }
    }
}
