/** Promise 7: remove; a test for each sentence. */
public final class RemoveTest {
    public static void main(String[] args) {
        outOfRange();
        notStored();
        aRefusedRemoveChangesNothing();
        theKeyLeavesAllOfItsHolders();
        nothingIsToldOfTheKey();
        noOtherKeyChanges();
        liveAndPendingStay();
        everyStoredKeyIsOk();
        removingMakesRoom();
        Due.finish();
    }

    private static void outOfRange() {
        Due.sentence("key not in range: ERR_RANGE. (remove)");
        for (int key : Due.OUT_OF_RANGE) {
            Due.due("remove(" + key + ") at the start", Sample.fresh().remove(key), ChordRing.ERR_RANGE);
            Due.due("remove(" + key + ")", Sample.broken().remove(key), ChordRing.ERR_RANGE);
        }
    }

    private static void notStored() {
        Due.sentence("key not stored: ERR_NO_KEY.");
        ChordRing ring = Sample.broken();
        for (int key = 0; key < ChordRing.RING; key++) {
            if (key != 5 && key != 15 && key != 35 && key != 250) {
                Due.due("remove(" + key + ")", ring.remove(key), ChordRing.ERR_NO_KEY);
            }
            Due.due("remove(" + key + ") at the start", Sample.fresh().remove(key), ChordRing.ERR_NO_KEY);
        }
        Due.due("remove(5)", ring.remove(5), ChordRing.OK);
        Due.due("remove(5) again", ring.remove(5), ChordRing.ERR_NO_KEY);
        Due.due("a key lost by a crash", Sample.crashedOut().remove(5), ChordRing.ERR_NO_KEY);
        Due.due("a key lost by a leave", Sample.leftEmpty().remove(5), ChordRing.ERR_NO_KEY);
    }

    private static void aRefusedRemoveChangesNothing() {
        Due.sentence("A refused remove changes nothing.");
        Due.refused("remove(-1)", Sample::broken, ring -> ring.remove(-1), ChordRing.ERR_RANGE);
        Due.refused("remove(261)", Sample::broken, ring -> ring.remove(261), ChordRing.ERR_RANGE);
        Due.refused("remove(10)", Sample::broken, ring -> ring.remove(10), ChordRing.ERR_NO_KEY);
        Due.refused("remove(6)", Sample::fullOfKeys, ring -> ring.remove(6), ChordRing.ERR_NO_KEY);
        Due.refused("remove(0)", Sample::fresh, ring -> ring.remove(0), ChordRing.ERR_NO_KEY);
        Due.refused("remove(5)", Sample::crashedOut, ring -> ring.remove(5), ChordRing.ERR_NO_KEY);
    }

    private static void theKeyLeavesAllOfItsHolders() {
        Due.sentence("Otherwise the key leaves STORE, and so leaves all of its holders, and keyCount"
            + " shrinks by one.");
        ChordRing ring = Sample.whole();
        Due.due("remove(5)", ring.remove(5), ChordRing.OK);
        Due.keys("5 removed", ring, 10, 35, 250);
        Due.keys("5 removed", ring, 20, 15, 250);
        Due.due("keyCount()", ring.keyCount(), 3);
        Due.due("remove(250)", ring.remove(250), ChordRing.OK);
        Due.keys("250 removed", ring, 10, 35);
        Due.keys("250 removed", ring, 20, 15);
        Due.due("keyCount()", ring.keyCount(), 2);
        Due.due("remove(15)", ring.remove(15), ChordRing.OK);
        Due.due("remove(35)", ring.remove(35), ChordRing.OK);
        Due.counts("all removed", ring, 4, 0, 0);
        Due.due("no key is left to lose", ring.crash(10), 0);
    }

    private static void nothingIsToldOfTheKey() {
        Due.sentence("Afterwards valueOf(key) is 0, holderAt(key, i) is NONE for every i, and"
            + " holds(n, key) is false for every n.");
        for (int key : new int[] {5, 15, 35, 250}) {
            ChordRing ring = Sample.broken();
            Due.due("remove(" + key + ")", ring.remove(key), ChordRing.OK);
            Due.due("valueOf(" + key + ")", ring.valueOf(key), 0);
            for (int i = -3; i < 259; i++) {
                Due.due("holderAt(" + key + ", " + i + ")", ring.holderAt(key, i), ChordRing.NONE);
                Due.due("holds(" + i + ", " + key + ")", ring.holds(i, key), false);
            }
        }
    }

    private static void noOtherKeyChanges() {
        Due.sentence("No other key changes; (remove)");
        ChordRing ring = Sample.broken();
        Due.due("remove(5)", ring.remove(5), ChordRing.OK);
        Due.holders("another key, broken", ring, 15, 30);
        Due.holders("another key, whole", ring, 35, 40, 10);
        Due.holders("another key, broken", ring, 250, 10);
        Due.values("another key", ring, 15, 35, 250);
        Due.due("two keys are still broken", ring.stabilise(), 2);
    }

    private static void liveAndPendingStay() {
        Due.sentence("LIVE and P are unchanged. (remove)");
        ChordRing ring = Sample.broken();
        Due.put(ring, 10);
        for (int key : new int[] {5, 10, 15, 35, 250}) {
            Due.due("remove(" + key + ")", ring.remove(key), ChordRing.OK);
        }
        Due.live("all removed", ring, 10, 30, 40);
        Due.counts("all removed", ring, 3, 0, 1);
    }

    private static void everyStoredKeyIsOk() {
        Due.sentence("The answer is OK. (remove)");
        for (int key = 0; key < ChordRing.RING; key++) {
            ChordRing ring = new ChordRing(8, 8, 1);
            Due.join(ring, 128);
            Due.due("put(" + key + ", 0)", ring.put(key, 0), ChordRing.OK);
            Due.due("remove(" + key + ")", ring.remove(key), ChordRing.OK);
            Due.keys("no key", ring, 128);
        }
    }

    private static void removingMakesRoom() {
        Due.sentence("and keyCount shrinks by one.");
        ChordRing ring = new ChordRing(8, 8, 1);
        Due.join(ring, 10);
        Due.put(ring, 1, 2, 3, 4, 5, 6, 7, 8);
        for (int key = 1; key < 100; key++) {
            Due.due("put past the end", ring.put(key + 8, 0), ChordRing.ERR_FULL);
            Due.due("remove(" + key + ")", ring.remove(key), ChordRing.OK);
            Due.due("keyCount()", ring.keyCount(), 7);
            Due.put(ring, key + 8);
            Due.due("keyCount()", ring.keyCount(), 8);
        }
    }
}
