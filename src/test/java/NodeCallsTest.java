/** Promises 2 to 5: join, leave, crash and stabilise. */
public final class NodeCallsTest {
    public static void main(String[] args) {
        joinAnswersInOrder();
        joinHandsKeysOver();
        joinRepairsCrashes();
        joinTakesEveryIdInRange();
        crashedIdJoinsAgain();
        leaveAnswersInOrder();
        leaveHandsKeysOver();
        leaveRepairsCrashes();
        lastLeaveRemovesEveryKey();
        crashAnswersInOrder();
        crashTakesCopiesWithoutHandoff();
        crashOfABystanderTouchesNoKey();
        crashCountsLostKeys();
        lastCrashLosesEveryKey();
        stabiliseCountsCopies();
        stabiliseWithNothingToDo();
        stabiliseOnAnEmptyRing();
        Due.finish();
    }

    private static void joinAnswersInOrder() {
        ChordRing ring = new ChordRing(8, 8, 2);
        for (int id : Due.OUT_OF_RANGE) {
            Due.due("join(" + id + ") on an empty ring", ring.join(id), ChordRing.ERR_RANGE);
        }
        Due.counts("after refused joins", ring, 0, 0, 0);
        Due.join(ring, 10, 20, 30, 40, 50, 60, 70, 80);
        Due.put(ring, 5, 15);
        ring.crash(10);
        String before = Due.state(ring);
        Due.due("join(30) with a crash pending", ring.join(30), ChordRing.ERR_LIVE);
        Due.due("join(256) with a crash pending", ring.join(256), ChordRing.ERR_RANGE);
        Due.same("refused joins with a crash pending", Due.state(ring), before);
        Due.join(ring, 100);
        before = Due.state(ring);
        Due.due("join(11) on a full ring", ring.join(11), ChordRing.ERR_FULL);
        Due.due("join(100) on a full ring", ring.join(100), ChordRing.ERR_LIVE);
        for (int id : Due.OUT_OF_RANGE) {
            Due.due("join(" + id + ") on a full ring", ring.join(id), ChordRing.ERR_RANGE);
        }
        Due.same("refused joins on a full ring", Due.state(ring), before);
    }

    private static void joinHandsKeysOver() {
        ChordRing ring = new ChordRing(8, 8, 3);
        Due.join(ring, 100);
        Due.put(ring, 50, 100, 101, 250);
        Due.holders("one node", ring, 50, 100);
        Due.join(ring, 200);
        Due.holders("two nodes", ring, 50, 100, 200);
        Due.holders("two nodes, key on a node", ring, 100, 100, 200);
        Due.holders("two nodes, key past a node", ring, 101, 200, 100);
        Due.join(ring, 0);
        Due.holders("three nodes", ring, 50, 100, 200, 0);
        Due.holders("three nodes", ring, 250, 0, 100, 200);
        Due.join(ring, 255);
        Due.holders("four nodes", ring, 50, 100, 200, 255);
        Due.holders("four nodes", ring, 100, 100, 200, 255);
        Due.holders("four nodes", ring, 101, 200, 255, 0);
        Due.holders("four nodes", ring, 250, 255, 0, 100);
        Due.keys("four nodes", ring, 255, 50, 100, 101, 250);
        Due.keys("four nodes", ring, 0, 101, 250);
        Due.counts("four nodes", ring, 4, 4, 0);
        Due.due("value after joins", ring.valueOf(50), 501);
        Due.due("value after joins", ring.valueOf(250), 2501);
    }

    private static void joinRepairsCrashes() {
        ChordRing ring = new ChordRing(8, 8, 2);
        Due.join(ring, 10, 20, 30, 40);
        Due.put(ring, 5, 35);
        ring.crash(10);
        Due.holders("crashed", ring, 5, 20);
        Due.join(ring, 200);
        Due.counts("join after a crash", ring, 4, 2, 0);
        Due.holders("join after a crash", ring, 5, 20, 30);
        Due.holders("join after a crash", ring, 35, 40, 200);
        Due.due("nothing left to repair", ring.stabilise(), 0);
    }

    private static void joinTakesEveryIdInRange() {
        for (int id = 0; id < ChordRing.RING; id++) {
            ChordRing ring = new ChordRing(8, 8, 1);
            Due.join(ring, id);
            Due.due("isLive(" + id + ")", ring.isLive(id), true);
            Due.due("lookup from " + id, ring.lookup(id, 77), id);
            Due.counts("one node", ring, 1, 0, 0);
        }
    }

    private static void crashedIdJoinsAgain() {
        ChordRing ring = new ChordRing(8, 8, 1);
        Due.join(ring, 10, 20);
        Due.put(ring, 5, 15);
        Due.due("crash(10)", ring.crash(10), 1);
        Due.join(ring, 10);
        Due.counts("joined again", ring, 2, 1, 0);
        Due.keys("joined again", ring, 10);
        Due.holders("a lost key stays lost", ring, 5);
        Due.put(ring, 5);
        Due.keys("put again", ring, 10, 5);
    }

    private static void leaveAnswersInOrder() {
        ChordRing ring = new ChordRing(8, 8, 2);
        for (int id = 0; id < ChordRing.RING; id++) {
            Due.due("leave(" + id + ") on an empty ring", ring.leave(id), ChordRing.ERR_NOT_LIVE);
        }
        Due.join(ring, 10, 20, 30);
        Due.put(ring, 5);
        ring.crash(10);
        String before = Due.state(ring);
        for (int id : Due.OUT_OF_RANGE) {
            Due.due("leave(" + id + ")", ring.leave(id), ChordRing.ERR_RANGE);
        }
        Due.due("leave of a crashed node", ring.leave(10), ChordRing.ERR_NOT_LIVE);
        Due.due("leave(11)", ring.leave(11), ChordRing.ERR_NOT_LIVE);
        Due.same("refused leaves with a crash pending", Due.state(ring), before);
        Due.due("leave(20)", ring.leave(20), ChordRing.OK);
        Due.due("leave(20) again", ring.leave(20), ChordRing.ERR_NOT_LIVE);
        Due.counts("one left", ring, 1, 1, 0);
    }

    private static void leaveHandsKeysOver() {
        ChordRing ring = new ChordRing(8, 8, 2);
        Due.join(ring, 10, 20, 30);
        Due.put(ring, 5, 15, 25);
        Due.due("leave(20)", ring.leave(20), ChordRing.OK);
        Due.counts("20 left", ring, 2, 3, 0);
        Due.due("isLive(20)", ring.isLive(20), false);
        Due.holders("20 left", ring, 5, 10, 30);
        Due.holders("20 left", ring, 15, 30, 10);
        Due.holders("20 left", ring, 25, 30, 10);
        Due.keys("20 left", ring, 20);
        Due.due("leave(30)", ring.leave(30), ChordRing.OK);
        Due.keys("30 left", ring, 10, 5, 15, 25);
        Due.holders("30 left", ring, 25, 10);
        Due.due("value handed over twice", ring.valueOf(25), 251);
        Due.counts("30 left", ring, 1, 3, 0);
    }

    private static void leaveRepairsCrashes() {
        ChordRing ring = new ChordRing(8, 8, 3);
        Due.join(ring, 10, 20, 30, 40, 50);
        Due.put(ring, 5);
        ring.crash(10);
        ring.crash(30);
        Due.holders("two crashes", ring, 5, 20);
        Due.due("leave of the only holder", ring.leave(20), ChordRing.OK);
        Due.holders("handed over", ring, 5, 40, 50);
        Due.due("value handed over", ring.valueOf(5), 51);
        Due.counts("leave after crashes", ring, 2, 1, 0);
    }

    private static void lastLeaveRemovesEveryKey() {
        ChordRing ring = new ChordRing(8, 8, 2);
        String empty = Due.state(ring);
        Due.join(ring, 10, 20);
        Due.put(ring, 5, 15);
        ring.crash(10);
        Due.due("leave of the last", ring.leave(20), ChordRing.OK);
        Due.same("after the last leave", Due.state(ring), empty);
        Due.join(ring, 30);
        Due.counts("joined after the last leave", ring, 1, 0, 0);
        Due.keys("joined after the last leave", ring, 30);
    }

    private static void crashAnswersInOrder() {
        ChordRing ring = new ChordRing(8, 8, 2);
        for (int id = 0; id < ChordRing.RING; id++) {
            Due.due("crash(" + id + ") on an empty ring", ring.crash(id), ChordRing.ERR_NOT_LIVE);
        }
        Due.counts("refused crashes", ring, 0, 0, 0);
        Due.join(ring, 10, 20, 30);
        Due.put(ring, 5, 15);
        Due.due("crash(10)", ring.crash(10), 0);
        String before = Due.state(ring);
        for (int id : Due.OUT_OF_RANGE) {
            Due.due("crash(" + id + ")", ring.crash(id), ChordRing.ERR_RANGE);
        }
        Due.due("crash(10) again", ring.crash(10), ChordRing.ERR_NOT_LIVE);
        Due.due("crash(11)", ring.crash(11), ChordRing.ERR_NOT_LIVE);
        Due.same("refused crashes", Due.state(ring), before);
    }

    private static void crashTakesCopiesWithoutHandoff() {
        ChordRing ring = new ChordRing(8, 8, 3);
        Due.join(ring, 10, 20, 30, 40, 50);
        Due.put(ring, 5, 15, 250);
        Due.due("crash of a middle holder", ring.crash(20), 0);
        Due.counts("20 crashed", ring, 4, 3, 1);
        Due.due("isLive(20)", ring.isLive(20), false);
        Due.holders("20 crashed", ring, 5, 10, 30);
        Due.holders("20 crashed", ring, 15, 30, 40);
        Due.holders("20 crashed", ring, 250, 10, 30);
        Due.due("holds(40, 5)", ring.holds(40, 5), false);
        Due.keys("20 crashed", ring, 20);
        Due.keys("20 crashed", ring, 40, 15);
        Due.due("crash of a first holder", ring.crash(10), 0);
        Due.counts("10 crashed", ring, 3, 3, 2);
        Due.holders("10 crashed", ring, 5, 30);
        Due.holders("10 crashed", ring, 15, 30, 40);
        Due.due("value after crashes", ring.valueOf(5), 51);
        Due.due("value after crashes", ring.valueOf(15), 151);
        Due.due("lookup after crashes", ring.lookup(50, 5), 30);
    }

    private static void crashOfABystanderTouchesNoKey() {
        ChordRing ring = new ChordRing(8, 8, 2);
        Due.join(ring, 10, 20, 30, 200);
        Due.put(ring, 5);
        Due.due("crash just past the holders", ring.crash(30), 0);
        Due.holders("30 crashed", ring, 5, 10, 20);
        Due.due("crash just before the key", ring.crash(200), 0);
        Due.holders("200 crashed", ring, 5, 10, 20);
        Due.counts("two bystanders crashed", ring, 2, 1, 2);
    }

    private static void crashCountsLostKeys() {
        ChordRing ring = new ChordRing(8, 8, 1);
        Due.join(ring, 10, 20, 30);
        Due.put(ring, 1, 2, 3, 15, 25, 26);
        Due.due("crash(10)", ring.crash(10), 3);
        Due.counts("10 crashed", ring, 2, 3, 1);
        for (int key = 1; key <= 3; key++) {
            Due.due("value of a lost key", ring.valueOf(key), 0);
            Due.holders("a lost key", ring, key);
            Due.due("remove of a lost key", ring.remove(key), ChordRing.ERR_NO_KEY);
        }
        Due.due("crash(30)", ring.crash(30), 2);
        Due.keys("30 crashed", ring, 20, 15);
        Due.counts("30 crashed", ring, 1, 1, 2);
        Due.put(ring, 1, 2, 3, 4, 5, 6, 7);
        Due.counts("refilled", ring, 1, 8, 2);
        Due.due("put past the refill", ring.put(8, 8), ChordRing.ERR_FULL);
    }

    private static void lastCrashLosesEveryKey() {
        ChordRing ring = new ChordRing(8, 8, 3);
        Due.join(ring, 10, 20);
        Due.put(ring, 5, 15, 25);
        Due.due("crash(10)", ring.crash(10), 0);
        Due.due("crash of the last", ring.crash(20), 3);
        Due.counts("no node", ring, 0, 0, 2);
        Due.due("put on the emptied ring", ring.put(5, 1), ChordRing.ERR_EMPTY);
        Due.due("valueOf(5)", ring.valueOf(5), 0);
        Due.join(ring, 30);
        Due.counts("joined", ring, 1, 0, 0);
        Due.due("crash of a node without keys", ring.crash(30), 0);
        Due.counts("no node", ring, 0, 0, 1);
    }

    private static void stabiliseCountsCopies() {
        ChordRing ring = new ChordRing(8, 8, 3);
        Due.join(ring, 10, 20, 30, 40, 50);
        Due.put(ring, 5, 15, 25, 45);
        ring.crash(20);
        ring.crash(30);
        Due.holders("crashed", ring, 5, 10);
        Due.holders("crashed", ring, 15, 40);
        Due.holders("crashed", ring, 25, 40, 50);
        Due.holders("crashed", ring, 45, 50, 10);
        Due.due("stabilise()", ring.stabilise(), 2 + 2 + 1 + 1);
        Due.counts("repaired", ring, 3, 4, 0);
        Due.holders("repaired", ring, 5, 10, 40, 50);
        Due.holders("repaired", ring, 15, 40, 50, 10);
        Due.holders("repaired", ring, 25, 40, 50, 10);
        Due.holders("repaired", ring, 45, 50, 10, 40);
        Due.due("value after repair", ring.valueOf(15), 151);
        Due.due("stabilise() again", ring.stabilise(), 0);
        ring.crash(10);
        Due.due("fewer nodes than replicas", ring.stabilise(), 0);
        Due.counts("two nodes", ring, 2, 4, 0);
        Due.holders("two nodes", ring, 5, 40, 50);
    }

    private static void stabiliseWithNothingToDo() {
        ChordRing ring = new ChordRing(8, 8, 2);
        Due.join(ring, 10, 20, 30);
        Due.put(ring, 5, 25);
        String before = Due.state(ring);
        Due.due("stabilise() without crashes", ring.stabilise(), 0);
        Due.same("stabilise() without crashes", Due.state(ring), before);
        ring.crash(10);
        Due.put(ring, 5, 25);
        Due.due("stabilise() after puts did the work", ring.stabilise(), 0);
        Due.counts("stabilised", ring, 2, 2, 0);
    }

    private static void stabiliseOnAnEmptyRing() {
        ChordRing ring = new ChordRing(8, 8, 2);
        Due.due("stabilise() at the start", ring.stabilise(), 0);
        Due.counts("stabilised at the start", ring, 0, 0, 0);
        Due.join(ring, 10, 20);
        Due.put(ring, 5);
        ring.crash(10);
        ring.crash(20);
        Due.counts("all crashed", ring, 0, 0, 2);
        Due.due("stabilise() without nodes", ring.stabilise(), 0);
        Due.counts("stabilised without nodes", ring, 0, 0, 0);
    }
}
