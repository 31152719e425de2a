/** Promise 4: crash; a test for each sentence. */
public final class CrashTest {
    public static void main(String[] args) {
        outOfRange();
        notLive();
        aRefusedCrashChangesNothing();
        theNodeIsGone();
        itsCopiesAreGone();
        aKeyWithoutHolderIsLost();
        pendingGrowsByOne();
        noRepairRuns();
        noRepairUntilARepairingCall();
        otherHoldersStay();
        survivorsKeepTheirValues();
        theAnswerCountsLostKeys();
        theLastNodeLosesEveryKey();
        Due.finish();
    }

    private static void outOfRange() {
        Due.sentence("id not in range: ERR_RANGE. (crash)");
        for (int id : Due.OUT_OF_RANGE) {
            Due.due("crash(" + id + ") at the start", Sample.fresh().crash(id), ChordRing.ERR_RANGE);
            Due.due("crash(" + id + ")", Sample.broken().crash(id), ChordRing.ERR_RANGE);
        }
    }

    private static void notLive() {
        Due.sentence("id not in LIVE: ERR_NOT_LIVE. (crash)");
        ChordRing ring = Sample.broken();
        for (int id = 0; id < ChordRing.RING; id++) {
            if (id != 10 && id != 30 && id != 40) {
                Due.due("crash(" + id + ")", ring.crash(id), ChordRing.ERR_NOT_LIVE);
            }
            Due.due("crash(" + id + ") at the start", Sample.fresh().crash(id), ChordRing.ERR_NOT_LIVE);
            Due.due("crash(" + id + "), all crashed", Sample.crashedOut().crash(id), ChordRing.ERR_NOT_LIVE);
        }
        Due.due("crash(40)", ring.crash(40), 0);
        Due.due("crash(40) again", ring.crash(40), ChordRing.ERR_NOT_LIVE);
    }

    private static void aRefusedCrashChangesNothing() {
        Due.sentence("A refused crash changes nothing, and P is not increased.");
        Due.refused("crash(-1)", Sample::broken, ring -> ring.crash(-1), ChordRing.ERR_RANGE);
        Due.refused("crash(266)", Sample::broken, ring -> ring.crash(266), ChordRing.ERR_RANGE);
        Due.refused("crash(20)", Sample::broken, ring -> ring.crash(20), ChordRing.ERR_NOT_LIVE);
        Due.refused("crash(5)", Sample::broken, ring -> ring.crash(5), ChordRing.ERR_NOT_LIVE);
        Due.refused("crash(20)", Sample::crashedOut, ring -> ring.crash(20), ChordRing.ERR_NOT_LIVE);
        Due.refused("crash(0)", Sample::fresh, ring -> ring.crash(0), ChordRing.ERR_NOT_LIVE);
        ChordRing ring = Sample.broken();
        ring.crash(256);
        Due.due("P after crash(256)", ring.pendingCrashes(), 1);
        ring.crash(20);
        Due.due("P after crash(20) again", ring.pendingCrashes(), 1);
    }

    private static void theNodeIsGone() {
        Due.sentence("id is removed from LIVE.");
        ChordRing ring = Sample.whole();
        Due.due("crash(40)", ring.crash(40), 0);
        Due.live("40 crashed", ring, 10, 20, 30);
        Due.due("lookup past it", ring.lookup(10, 35), 10);
        Due.due("lookup at it", ring.lookup(40, 35), ChordRing.NONE);
    }

    private static void itsCopiesAreGone() {
        Due.sentence("id is removed from H(k) of every stored key k.");
        ChordRing ring = Sample.whole();
        Due.due("crash(10)", ring.crash(10), 0);
        Due.keys("10 crashed", ring, 10);
        Due.holders("10 crashed", ring, 5, 20);
        Due.holders("10 crashed", ring, 35, 40);
        Due.holders("10 crashed", ring, 250, 20);
        for (int key = 0; key < ChordRing.RING; key++) {
            Due.due("holds(10, " + key + ")", ring.holds(10, key), false);
        }
    }

    private static void aKeyWithoutHolderIsLost() {
        Due.sentence("Every key whose H became empty is removed from STORE; that key is lost.");
        ChordRing ring = Sample.broken();
        Due.due("crash(10)", ring.crash(10), 2);
        Due.counts("10 crashed", ring, 2, 2, 2);
        for (int key : new int[] {5, 250}) {
            Due.due("value of a lost key", ring.valueOf(key), 0);
            Due.holders("a lost key", ring, key);
            Due.due("remove of a lost key", ring.remove(key), ChordRing.ERR_NO_KEY);
        }
        Due.due("a lost key is not mended", ring.stabilise(), 2);
        Due.counts("mended", ring, 2, 2, 0);
        ChordRing full = new ChordRing(8, 8, 1);
        Due.join(full, 10, 20);
        Due.put(full, 1, 2, 3, 11, 12, 13, 14, 15);
        Due.due("crash(10)", full.crash(10), 3);
        Due.put(full, 4, 5, 6);
        Due.due("a lost key makes room for one", full.put(7, 7), ChordRing.ERR_FULL);
    }

    private static void pendingGrowsByOne() {
        Due.sentence("P := P + 1.");
        ChordRing ring = new ChordRing(32, 32, 3);
        for (int id = 0; id < 32; id++) {
            Due.join(ring, 8 * id);
        }
        for (int id = 0; id < 32; id++) {
            Due.due("crash(" + 8 * id + ")", ring.crash(8 * id), 0);
            Due.due("P after crash " + (id + 1), ring.pendingCrashes(), id + 1);
        }
    }

    private static void noRepairRuns() {
        Due.sentence("No REPAIR runs.");
        ChordRing ring = Sample.whole();
        Due.due("crash(20)", ring.crash(20), 0);
        Due.due("crash(40)", ring.crash(40), 0);
        Due.due("pendingCrashes()", ring.pendingCrashes(), 2);
        Due.due("copies left to make", ring.stabilise(), 4);
    }

    private static void noRepairUntilARepairingCall() {
        Due.sentence("Crashes are not repaired until a repairing call (stabilise, join, leave) runs.");
        ChordRing ring = Sample.broken();
        Due.put(ring, 5);
        Due.due("remove(35)", ring.remove(35), ChordRing.OK);
        Due.due("join(30)", ring.join(30), ChordRing.ERR_LIVE);
        Due.due("leave(20)", ring.leave(20), ChordRing.ERR_NOT_LIVE);
        Due.due("lookup(10, 15)", ring.lookup(10, 15), 30);
        Due.holders("no repairing call", ring, 15, 30);
        Due.holders("no repairing call", ring, 250, 10);
        Due.due("no repairing call: pendingCrashes()", ring.pendingCrashes(), 1);
        ChordRing joined = Sample.broken();
        Due.join(joined, 200);
        Due.holders("join", joined, 15, 30, 40);
        ChordRing left = Sample.broken();
        Due.due("leave(10)", left.leave(10), ChordRing.OK);
        Due.holders("leave", left, 15, 30, 40);
        Due.due("stabilise()", ring.stabilise(), 2);
        Due.holders("stabilise", ring, 15, 30, 40);
        Due.holders("stabilise", ring, 250, 10, 30);
    }

    private static void otherHoldersStay() {
        Due.sentence("Holders other than id stay as they were, even where H(k) now has fewer than"
            + " min(R, L) members.");
        ChordRing ring = new ChordRing(8, 8, 3);
        Due.join(ring, 10, 20, 30, 40, 50);
        Due.put(ring, 5, 15, 250);
        Due.due("crash of a middle holder", ring.crash(20), 0);
        Due.holders("20 crashed", ring, 5, 10, 30);
        Due.holders("20 crashed", ring, 15, 30, 40);
        Due.holders("20 crashed", ring, 250, 10, 30);
        Due.due("40 is not called in", ring.holds(40, 5), false);
        Due.due("crash of a first holder", ring.crash(10), 0);
        Due.holders("10 crashed", ring, 5, 30);
        Due.holders("10 crashed", ring, 15, 30, 40);
        Due.holders("10 crashed", ring, 250, 30);
        ChordRing aside = Sample.whole();
        Due.due("crash just past the holders", aside.crash(30), 0);
        Due.holders("30 crashed", aside, 5, 10, 20);
        Due.due("crash just before the key", aside.crash(40), 0);
        Due.holders("40 crashed", aside, 250, 10, 20);
        Due.holders("40 crashed", aside, 15, 20);
    }

    private static void survivorsKeepTheirValues() {
        Due.sentence("Surviving keys keep their values.");
        ChordRing ring = Sample.whole();
        Due.due("put(36, 0)", ring.put(36, 0), ChordRing.OK);
        Due.due("put(37, least)", ring.put(37, Integer.MIN_VALUE), ChordRing.OK);
        Due.due("crash(10)", ring.crash(10), 0);
        Due.values("10 crashed", ring, 5, 15, 35, 250);
        Due.due("crash(30)", ring.crash(30), 0);
        Due.values("30 crashed", ring, 5, 15, 35, 250);
        Due.due("a stored 0", ring.valueOf(36), 0);
        Due.holders("a stored 0", ring, 36, 40);
        Due.due("the least int", ring.valueOf(37), Integer.MIN_VALUE);
    }

    private static void theAnswerCountsLostKeys() {
        Due.sentence("The answer is the number of keys lost by this call, 0 or more.");
        ChordRing ring = new ChordRing(8, 8, 1);
        Due.join(ring, 10, 20, 30, 40);
        Due.put(ring, 1, 2, 3, 15, 25, 26);
        Due.due("crash of a node without keys", ring.crash(40), 0);
        Due.due("crash(10)", ring.crash(10), 3);
        Due.due("crash(30)", ring.crash(30), 2);
        Due.counts("30 crashed", ring, 1, 1, 3);
        Due.keys("30 crashed", ring, 20, 15);
        ChordRing copies = Sample.whole();
        Due.due("every key has a second copy", copies.crash(10), 0);
        Due.due("two keys had theirs at 10", copies.crash(20), 2);
        Due.due("one key had its second at 20", copies.crash(30), 1);
        Due.due("one key had its second at 10", copies.crash(40), 1);
    }

    private static void theLastNodeLosesEveryKey() {
        Due.sentence("every key is lost and the answer equals keyCount before the call.");
        ChordRing ring = new ChordRing(8, 8, 3);
        Due.join(ring, 10, 20);
        Due.put(ring, 5, 15, 25);
        Due.due("crash(10)", ring.crash(10), 0);
        Due.put(ring, 26);
        Due.due("crash of the last", ring.crash(20), 4);
        Due.counts("no node", ring, 0, 0, 2);
        for (int key : new int[] {5, 15, 25, 26}) {
            Due.due("valueOf(" + key + ")", ring.valueOf(key), 0);
            Due.holders("no node", ring, key);
        }
        Due.join(ring, 30);
        Due.keys("a node joined", ring, 30);
        Due.due("crash of the last without keys", ring.crash(30), 0);
        Due.counts("no node again", ring, 0, 0, 1);
        ChordRing full = new ChordRing(8, 32, 2);
        Due.join(full, 0);
        for (int key = 0; key < 32; key++) {
            Due.put(full, 8 * key);
        }
        Due.due("crash of the last with a full store", full.crash(0), 32);
        Due.counts("a full store is lost", full, 0, 0, 1);
    }
}
