/** Promise 3: leave; a test for each sentence. */
public final class LeaveTest {
    public static void main(String[] args) {
        outOfRange();
        notLive();
        aRefusedLeaveChangesNothing();
        anEmptyRing();
        liveShrinksByOne();
        keysAreHandedOver();
        aLastHolderHandsItsKeysOver();
        theLastNodeTakesEveryKeyAway();
        pendingIsZeroInBothCases();
        everyLiveIdIsOk();
        Due.finish();
    }

    private static void outOfRange() {
        Due.sentence("id not in range: ERR_RANGE. (leave)");
        for (int id : Due.OUT_OF_RANGE) {
            Due.due("leave(" + id + ") at the start", Sample.fresh().leave(id), ChordRing.ERR_RANGE);
            Due.due("leave(" + id + ")", Sample.broken().leave(id), ChordRing.ERR_RANGE);
        }
    }

    private static void notLive() {
        Due.sentence("id not in LIVE: ERR_NOT_LIVE. (leave)");
        ChordRing ring = Sample.broken();
        for (int id = 0; id < ChordRing.RING; id++) {
            if (id != 10 && id != 30 && id != 40) {
                Due.due("leave(" + id + ")", ring.leave(id), ChordRing.ERR_NOT_LIVE);
            }
        }
        Due.due("leave(30)", ring.leave(30), ChordRing.OK);
        Due.due("leave(30) again", ring.leave(30), ChordRing.ERR_NOT_LIVE);
    }

    private static void aRefusedLeaveChangesNothing() {
        Due.sentence("A refused leave changes nothing.");
        Due.refused("leave(-1)", Sample::broken, ring -> ring.leave(-1), ChordRing.ERR_RANGE);
        Due.refused("leave(266)", Sample::broken, ring -> ring.leave(266), ChordRing.ERR_RANGE);
        Due.refused("leave(20)", Sample::broken, ring -> ring.leave(20), ChordRing.ERR_NOT_LIVE);
        Due.refused("leave(5)", Sample::broken, ring -> ring.leave(5), ChordRing.ERR_NOT_LIVE);
        Due.refused("leave(0)", Sample::fullOfKeys, ring -> ring.leave(0), ChordRing.ERR_NOT_LIVE);
        Due.refused("leave(20)", Sample::crashedOut, ring -> ring.leave(20), ChordRing.ERR_NOT_LIVE);
        Due.refused("leave(300)", Sample::crashedOut, ring -> ring.leave(300), ChordRing.ERR_RANGE);
    }

    private static void anEmptyRing() {
        Due.sentence("In particular, a leave on an empty ring answers ERR_NOT_LIVE for any in-range id.");
        for (int id = 0; id < ChordRing.RING; id++) {
            Due.due("leave(" + id + ") at the start", Sample.fresh().leave(id), ChordRing.ERR_NOT_LIVE);
            Due.due("leave(" + id + "), all crashed", Sample.crashedOut().leave(id), ChordRing.ERR_NOT_LIVE);
            Due.due("leave(" + id + "), all left", Sample.leftEmpty().leave(id), ChordRing.ERR_NOT_LIVE);
        }
    }

    private static void liveShrinksByOne() {
        Due.sentence("Otherwise id is removed from LIVE, so L shrinks by one, and then REPAIR runs.");
        ChordRing ring = Sample.broken();
        Due.due("leave(40)", ring.leave(40), ChordRing.OK);
        Due.live("40 left", ring, 10, 30);
        Due.due("nothing left to repair", ring.stabilise(), 0);
        Due.due("leave(10)", ring.leave(10), ChordRing.OK);
        Due.live("10 left", ring, 30);
        Due.due("leave(30)", ring.leave(30), ChordRing.OK);
        Due.live("30 left", ring);
    }

    private static void keysAreHandedOver() {
        Due.sentence("every stored key k gets H(k) := top(k) with the new LIVE, V(k) is unchanged"
            + " and keyCount is unchanged.");
        ChordRing ring = Sample.whole();
        Due.due("leave(10)", ring.leave(10), ChordRing.OK);
        Due.holders("10 left", ring, 5, 20, 30);
        Due.holders("10 left", ring, 15, 20, 30);
        Due.holders("10 left", ring, 35, 40, 20);
        Due.holders("10 left", ring, 250, 20, 30);
        Due.keys("10 left", ring, 10);
        Due.counts("10 left", ring, 3, 4, 0);
        Due.due("leave(20)", ring.leave(20), ChordRing.OK);
        Due.due("leave(30)", ring.leave(30), ChordRing.OK);
        Due.keys("one node is left", ring, 40, 5, 15, 35, 250);
        Due.holders("one node is left", ring, 35, 40);
        Due.values("one node is left", ring, 5, 15, 35, 250);
        Due.counts("one node is left", ring, 1, 4, 0);
    }

    private static void aLastHolderHandsItsKeysOver() {
        Due.sentence("If a live node remains, the leaving node's keys are handed over:");
        ChordRing single = new ChordRing(8, 8, 1);
        Due.join(single, 10, 20);
        Due.put(single, 5, 250);
        Due.due("leave of the only holder, R 1", single.leave(10), ChordRing.OK);
        Due.keys("handed over", single, 20, 5, 250);
        Due.values("handed over", single, 5, 250);
        ChordRing ring = new ChordRing(8, 8, 3);
        Due.join(ring, 10, 20, 30, 40, 50);
        Due.put(ring, 5);
        Due.due("crash(10)", ring.crash(10), 0);
        Due.due("crash(30)", ring.crash(30), 0);
        Due.holders("two crashes", ring, 5, 20);
        Due.due("leave of the only holder after crashes", ring.leave(20), ChordRing.OK);
        Due.holders("handed over", ring, 5, 40, 50);
        Due.values("handed over", ring, 5);
        Due.counts("handed over", ring, 2, 1, 0);
    }

    private static void theLastNodeTakesEveryKeyAway() {
        Due.sentence("If no live node remains, every stored key is removed and keyCount becomes 0.");
        ChordRing ring = Sample.fresh();
        Due.join(ring, 10);
        Due.put(ring, 0, 9, 10, 11, 100, 200, 254, 255);
        Due.due("leave of the last", ring.leave(10), ChordRing.OK);
        Due.same("the last has left", Due.state(ring), Due.state(Sample.fresh()));
        Due.due("keyCount()", ring.keyCount(), 0);
        Due.join(ring, 30);
        Due.keys("a node joined", ring, 30);
        Due.put(ring, 1, 2, 3, 4, 5, 6, 7, 8);
        Due.counts("all the room is there again", ring, 1, 8, 0);
    }

    private static void pendingIsZeroInBothCases() {
        Due.sentence("In both cases P becomes 0.");
        ChordRing ring = Sample.broken();
        Due.due("crash(30)", ring.crash(30), 1);
        Due.due("pendingCrashes()", ring.pendingCrashes(), 2);
        Due.due("leave(10)", ring.leave(10), ChordRing.OK);
        Due.due("a node remains: pendingCrashes()", ring.pendingCrashes(), 0);
        ChordRing two = Sample.fresh();
        Due.join(two, 10, 20);
        Due.put(two, 5, 15);
        Due.due("crash(10)", two.crash(10), 0);
        Due.due("leave of the last", two.leave(20), ChordRing.OK);
        Due.counts("no node remains", two, 0, 0, 0);
    }

    private static void everyLiveIdIsOk() {
        Due.sentence("The answer is OK. (leave)");
        for (int id = 0; id < ChordRing.RING; id++) {
            ChordRing ring = new ChordRing(8, 8, 1);
            Due.join(ring, id);
            Due.due("leave(" + id + ")", ring.leave(id), ChordRing.OK);
            Due.due("isLive(" + id + ")", ring.isLive(id), false);
        }
    }
}
