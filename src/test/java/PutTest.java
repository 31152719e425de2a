/** Promise 6: put; a test for each sentence. */
public final class PutTest {
    public static void main(String[] args) {
        outOfRange();
        emptyRing();
        fullStore();
        theOrderOfTheConditions();
        aRefusedPutChangesNothing();
        overwritingOnAFullStore();
        anyIntIsAValue();
        holdersAreTopOfTheCurrentLive();
        noMoreHoldersThanLiveNodes();
        storedBeforeOrNot();
        countGrowsOnlyForANewKey();
        noOtherKeyChanges();
        liveAndPendingStay();
        everyKeyInRangeIsOk();
        Due.finish();
    }

    private static void outOfRange() {
        Due.sentence("key not in range: ERR_RANGE. (put)");
        for (int key : Due.OUT_OF_RANGE) {
            Due.due("put(" + key + ")", Sample.whole().put(key, 1), ChordRing.ERR_RANGE);
            Due.due("put(" + key + ")", Sample.broken().put(key, 1), ChordRing.ERR_RANGE);
        }
    }

    private static void emptyRing() {
        Due.sentence("L == 0: ERR_EMPTY.");
        for (int key = 0; key < ChordRing.RING; key++) {
            Due.due("put(" + key + ") at the start", Sample.fresh().put(key, 1), ChordRing.ERR_EMPTY);
            Due.due("put(" + key + "), all crashed", Sample.crashedOut().put(key, 1), ChordRing.ERR_EMPTY);
            Due.due("put(" + key + "), all left", Sample.leftEmpty().put(key, 1), ChordRing.ERR_EMPTY);
        }
    }

    private static void fullStore() {
        Due.sentence("key not stored and keyCount == maxKeys: ERR_FULL.");
        for (int size : new int[] {8, 9, 20, 31, 32}) {
            ChordRing ring = new ChordRing(8, size, 2);
            Due.join(ring, 100);
            for (int key = 0; key < size; key++) {
                Due.put(ring, 7 * key);
            }
            Due.due("key " + size + " + 1", ring.put(255, 1), ChordRing.ERR_FULL);
            Due.due("remove(7)", ring.remove(7), ChordRing.OK);
            Due.due("put after a remove", ring.put(255, 1), ChordRing.OK);
            Due.due("full again", ring.put(7, 1), ChordRing.ERR_FULL);
        }
    }

    private static void theOrderOfTheConditions() {
        Due.sentence("The conditions are examined in this order: (put)");
        for (int key : Due.OUT_OF_RANGE) {
            Due.due("put(" + key + ") without nodes", Sample.fresh().put(key, 1), ChordRing.ERR_RANGE);
            Due.due("put(" + key + "), all crashed", Sample.crashedOut().put(key, 1), ChordRing.ERR_RANGE);
            Due.due("put(" + key + ") on a full store", Sample.fullOfKeys().put(key, 1), ChordRing.ERR_RANGE);
        }
        ChordRing ring = Sample.fullOfKeys();
        for (int id : new int[] {10, 30, 40}) {
            ring.crash(id);
        }
        Due.due("put where a full store was", ring.put(1, 1), ChordRing.ERR_EMPTY);
    }

    private static void aRefusedPutChangesNothing() {
        Due.sentence("A refused put changes nothing.");
        Due.refused("put(-1)", Sample::broken, ring -> ring.put(-1, 7), ChordRing.ERR_RANGE);
        Due.refused("put(261)", Sample::broken, ring -> ring.put(261, 7), ChordRing.ERR_RANGE);
        Due.refused("put(261)", Sample::fullOfKeys, ring -> ring.put(261, 7), ChordRing.ERR_RANGE);
        Due.refused("put(5)", Sample::fresh, ring -> ring.put(5, 7), ChordRing.ERR_EMPTY);
        Due.refused("put(5)", Sample::crashedOut, ring -> ring.put(5, 7), ChordRing.ERR_EMPTY);
        Due.refused("put(5)", Sample::leftEmpty, ring -> ring.put(5, 7), ChordRing.ERR_EMPTY);
        Due.refused("put(5)", Sample::fullOfKeys, ring -> ring.put(5, 7), ChordRing.ERR_FULL);
        Due.refused("put(0)", Sample::fullOfKeys, ring -> ring.put(0, 7), ChordRing.ERR_FULL);
    }

    private static void overwritingOnAFullStore() {
        Due.sentence("Overwriting an already stored key is accepted even when keyCount == maxKeys.");
        ChordRing ring = Sample.fullOfKeys();
        for (int key : new int[] {1, 2, 11, 12, 21, 22, 31, 32}) {
            Due.due("put(" + key + ") again", ring.put(key, -key), ChordRing.OK);
            Due.due("valueOf(" + key + ")", ring.valueOf(key), -key);
        }
        Due.counts("overwritten", ring, 3, 8, 1);
    }

    private static void anyIntIsAValue() {
        Due.sentence("Otherwise V(key) := value, where value may be any int,");
        int[] values = {0, 1, -1, -6, 255, 256, 65536, Integer.MIN_VALUE, Integer.MAX_VALUE};
        ChordRing ring = Sample.fresh();
        Due.join(ring, 128);
        for (int key : new int[] {0, 127, 128, 255}) {
            for (int value : values) {
                Due.due("put(" + key + ", " + value + ")", ring.put(key, value), ChordRing.OK);
                Due.due("valueOf(" + key + ")", ring.valueOf(key), value);
                Due.holders("value " + value, ring, key, 128);
            }
        }
    }

    private static void holdersAreTopOfTheCurrentLive() {
        Due.sentence("and H(key) := top(key) for the current LIVE.");
        ChordRing ring = new ChordRing(8, 8, 3);
        Due.join(ring, 10);
        Due.put(ring, 0);
        Due.holders("one node", ring, 0, 10);
        Due.join(ring, 20, 30, 40);
        Due.put(ring, 10, 11, 41, 255);
        Due.holders("key on a node", ring, 10, 10, 20, 30);
        Due.holders("key just past a node", ring, 11, 20, 30, 40);
        Due.holders("key past all nodes", ring, 41, 10, 20, 30);
        Due.holders("key 255", ring, 255, 10, 20, 30);
        Due.due("crash(20)", ring.crash(20), 0);
        Due.put(ring, 6, 35);
        Due.holders("20 crashed, new key", ring, 6, 10, 30, 40);
        Due.holders("20 crashed, new key, wrapped", ring, 35, 40, 10, 30);
        Due.due("crash(40)", ring.crash(40), 0);
        Due.put(ring, 35);
        Due.holders("fewer nodes than R", ring, 35, 10, 30);
    }

    private static void noMoreHoldersThanLiveNodes() {
        Due.sentence("and H(key) := top(key) for the current LIVE.");
        ChordRing ring = new ChordRing(8, 8, 3);
        Due.join(ring, 10, 20);
        Due.put(ring, 5);
        Due.due("no copy is missing", ring.stabilise(), 0);
        Due.due("crash(10)", ring.crash(10), 0);
        Due.put(ring, 5, 6);
        Due.due("no copy is missing", ring.stabilise(), 0);
        Due.due("the only holder crashes", ring.crash(20), 2);
        Due.due("keyCount()", ring.keyCount(), 0);
    }

    private static void storedBeforeOrNot() {
        Due.sentence("This happens whether the key was stored before or not.");
        ChordRing ring = Sample.broken();
        Due.due("put(5, 7), stored and broken", ring.put(5, 7), ChordRing.OK);
        Due.holders("stored and broken", ring, 5, 10, 30);
        Due.due("its value", ring.valueOf(5), 7);
        Due.due("put(35, 8), stored and whole", ring.put(35, 8), ChordRing.OK);
        Due.holders("stored and whole", ring, 35, 40, 10);
        Due.due("its value", ring.valueOf(35), 8);
        Due.due("put(6, 9), not stored", ring.put(6, 9), ChordRing.OK);
        Due.holders("not stored", ring, 6, 10, 30);
        Due.due("its value", ring.valueOf(6), 9);
        Due.due("remove(6)", ring.remove(6), ChordRing.OK);
        Due.due("put(6, 0), removed before", ring.put(6, 0), ChordRing.OK);
        Due.holders("removed before", ring, 6, 10, 30);
        Due.due("its value", ring.valueOf(6), 0);
    }

    private static void countGrowsOnlyForANewKey() {
        Due.sentence("keyCount grows by one only if the key was new.");
        ChordRing ring = Sample.fresh();
        Due.join(ring, 10, 20, 30);
        for (int i = 0; i < 8; i++) {
            Due.due("put, new", ring.put(30 * i, 0), ChordRing.OK);
            Due.due("keyCount()", ring.keyCount(), i + 1);
            Due.due("put, same value", ring.put(30 * i, 0), ChordRing.OK);
            Due.due("put, other value", ring.put(30 * i, i), ChordRing.OK);
            Due.due("keyCount()", ring.keyCount(), i + 1);
        }
    }

    private static void noOtherKeyChanges() {
        Due.sentence("No other key changes, not even when crashes are pending.");
        ChordRing ring = Sample.broken();
        Due.put(ring, 6);
        Due.due("put(5, 7)", ring.put(5, 7), ChordRing.OK);
        Due.holders("another key, broken", ring, 15, 30);
        Due.holders("another key, whole", ring, 35, 40, 10);
        Due.holders("another key, broken", ring, 250, 10);
        Due.values("another key", ring, 6, 15, 35, 250);
        Due.due("two keys are still broken", ring.stabilise(), 2);
    }

    private static void liveAndPendingStay() {
        Due.sentence("LIVE is unchanged and P is unchanged. (put)");
        ChordRing ring = Sample.broken();
        Due.put(ring, 5, 6, 20, 30);
        Due.live("new and old keys put", ring, 10, 30, 40);
        Due.due("pendingCrashes()", ring.pendingCrashes(), 1);
        ChordRing whole = Sample.whole();
        Due.put(whole, 5, 6);
        Due.due("pendingCrashes() without a crash", whole.pendingCrashes(), 0);
    }

    private static void everyKeyInRangeIsOk() {
        Due.sentence("The answer is OK. (put)");
        for (int key = 0; key < ChordRing.RING; key++) {
            ChordRing ring = new ChordRing(8, 8, 1);
            Due.join(ring, 128);
            Due.due("put(" + key + ")", ring.put(key, -5), ChordRing.OK);
            Due.due("put(" + key + ") again", ring.put(key, -4), ChordRing.OK);
            Due.keys("one key", ring, 128, key);
        }
    }
}
