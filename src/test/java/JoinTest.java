/** Promise 2: join; a test for each sentence. */
public final class JoinTest {
    public static void main(String[] args) {
        outOfRange();
        alreadyLive();
        fullRing();
        theFirstConditionThatApplies();
        orderOnAFullRing();
        aRefusedJoinChangesNothing();
        liveGrowsByOne();
        holdersAreTopOfTheNewLive();
        keysAreHandedToTheNewNode();
        crashedHoldersAreDropped();
        noKeyIsRemoved();
        countAndValuesStayAndPendingIsZero();
        everyIdInRangeIsOk();
        aCrashedIdMayJoinAgain();
        Due.finish();
    }

    private static void outOfRange() {
        Due.sentence("id not in range: ERR_RANGE. (join)");
        for (int id : Due.OUT_OF_RANGE) {
            Due.due("join(" + id + ") at the start", Sample.fresh().join(id), ChordRing.ERR_RANGE);
            Due.due("join(" + id + ")", Sample.broken().join(id), ChordRing.ERR_RANGE);
        }
    }

    private static void alreadyLive() {
        Due.sentence("id in LIVE: ERR_LIVE.");
        for (int id : new int[] {0, 10, 20, 255}) {
            ChordRing ring = Sample.fresh();
            Due.join(ring, id);
            Due.due("join(" + id + ") again", ring.join(id), ChordRing.ERR_LIVE);
        }
        Due.due("join(30) with a crash pending", Sample.broken().join(30), ChordRing.ERR_LIVE);
    }

    private static void fullRing() {
        Due.sentence("L == maxNodes: ERR_FULL.");
        for (int size : new int[] {8, 9, 20, 31, 32}) {
            ChordRing ring = new ChordRing(size, 8, 2);
            for (int id = 0; id < size; id++) {
                Due.join(ring, 7 * id);
            }
            Due.due("node " + size + " + 1", ring.join(255), ChordRing.ERR_FULL);
            Due.due("leave(7)", ring.leave(7), ChordRing.OK);
            Due.due("join after a leave", ring.join(255), ChordRing.OK);
            Due.due("full again", ring.join(7), ChordRing.ERR_FULL);
            Due.due("crash(0)", ring.crash(0), 0);
            Due.due("join after a crash", ring.join(7), ChordRing.OK);
            Due.due("full once more", ring.join(0), ChordRing.ERR_FULL);
        }
    }

    private static void theFirstConditionThatApplies() {
        Due.sentence("The conditions are examined in this order, and the first that applies decides the answer:");
        ChordRing ring = Sample.fresh();
        for (int nodes = 0; nodes < 8; nodes++) {
            Due.due("join(256) with " + nodes + " nodes", ring.join(256), ChordRing.ERR_RANGE);
            Due.due("join(" + nodes + ")", ring.join(nodes), ChordRing.OK);
            Due.due("join(" + nodes + ") again", ring.join(nodes), ChordRing.ERR_LIVE);
        }
        Due.due("join(256) with 8 nodes", ring.join(256), ChordRing.ERR_RANGE);
        Due.due("join(7) with 8 nodes", ring.join(7), ChordRing.ERR_LIVE);
        Due.due("join(8) with 8 nodes", ring.join(8), ChordRing.ERR_FULL);
    }

    private static void orderOnAFullRing() {
        Due.sentence("an out-of-range id on a full ring answers ERR_RANGE,");
        for (int id : Due.OUT_OF_RANGE) {
            Due.due("join(" + id + ")", Sample.fullOfNodes().join(id), ChordRing.ERR_RANGE);
        }
        Due.sentence("and a live id on a full ring answers ERR_LIVE.");
        for (int id = 10; id <= 80; id += 10) {
            Due.due("join(" + id + ")", Sample.fullOfNodes().join(id), ChordRing.ERR_LIVE);
        }
    }

    private static void aRefusedJoinChangesNothing() {
        Due.sentence("A refused join changes nothing.");
        Due.refused("join(-1)", Sample::broken, ring -> ring.join(-1), ChordRing.ERR_RANGE);
        Due.refused("join(256)", Sample::broken, ring -> ring.join(256), ChordRing.ERR_RANGE);
        Due.refused("join(256)", Sample::crashedOut, ring -> ring.join(256), ChordRing.ERR_RANGE);
        Due.refused("join(10)", Sample::broken, ring -> ring.join(10), ChordRing.ERR_LIVE);
        Due.refused("join(10)", Sample::fullOfKeys, ring -> ring.join(10), ChordRing.ERR_LIVE);
        Due.refused("join(80)", Sample::fullOfNodes, ring -> ring.join(80), ChordRing.ERR_LIVE);
        Due.refused("join(11)", Sample::fullOfNodes, ring -> ring.join(11), ChordRing.ERR_FULL);
        Due.refused("join(-1)", Sample::fullOfNodes, ring -> ring.join(-1), ChordRing.ERR_RANGE);
    }

    private static void liveGrowsByOne() {
        Due.sentence("Otherwise id is added to LIVE, so L grows by one, and then REPAIR runs.");
        ChordRing ring = Sample.broken();
        Due.join(ring, 0);
        Due.live("0 joined", ring, 0, 10, 30, 40);
        Due.join(ring, 255);
        Due.live("255 joined", ring, 0, 10, 30, 40, 255);
        Due.due("nothing left to repair", ring.stabilise(), 0);
    }

    private static void holdersAreTopOfTheNewLive() {
        Due.sentence("Every stored key k gets H(k) := top(k) computed with the new LIVE.");
        ChordRing ring = new ChordRing(8, 8, 3);
        Due.join(ring, 100);
        Due.put(ring, 50, 100, 101, 250);
        Due.holders("one node", ring, 50, 100);
        Due.join(ring, 200);
        Due.holders("two nodes", ring, 50, 100, 200);
        Due.holders("two nodes, key on a node", ring, 100, 100, 200);
        Due.holders("two nodes, key past a node", ring, 101, 200, 100);
        Due.join(ring, 0);
        Due.holders("three nodes", ring, 50, 100, 200, 0);
        Due.holders("three nodes", ring, 250, 0, 100, 200);
        Due.join(ring, 255);
        Due.holders("four nodes", ring, 50, 100, 200, 255);
        Due.holders("four nodes", ring, 100, 100, 200, 255);
        Due.holders("four nodes", ring, 101, 200, 255, 0);
        Due.holders("four nodes", ring, 250, 255, 0, 100);
    }

    private static void keysAreHandedToTheNewNode() {
        Due.sentence("Keys are therefore handed to the new node as top() dictates,");
        ChordRing ring = Sample.whole();
        Due.join(ring, 12);
        Due.keys("12 joined", ring, 12, 5, 250);
        Due.keys("12 joined", ring, 10, 5, 35, 250);
        Due.keys("12 joined", ring, 20, 15);
        Due.join(ring, 5);
        Due.keys("5 joined on a key", ring, 5, 5, 35, 250);
        Due.keys("5 joined on a key", ring, 10, 5, 250);
        Due.keys("5 joined on a key", ring, 12);
        Due.join(ring, 255);
        Due.keys("255 joined", ring, 255, 35, 250);
        Due.keys("255 joined", ring, 5, 5, 250);
    }

    private static void crashedHoldersAreDropped() {
        Due.sentence("and crashed-but-unrepaired holders are dropped.");
        ChordRing ring = Sample.broken();
        Due.join(ring, 200);
        Due.holders("200 joined", ring, 5, 10, 30);
        Due.holders("200 joined", ring, 15, 30, 40);
        Due.holders("200 joined", ring, 35, 40, 200);
        Due.holders("200 joined", ring, 250, 10, 30);
        Due.keys("the crashed node", ring, 20);
    }

    private static void noKeyIsRemoved() {
        Due.sentence("No key is removed, because L >= 1.");
        ChordRing ring = Sample.fullOfKeys();
        Due.join(ring, 20);
        Due.counts("the crashed node joined", ring, 4, 8, 0);
        Due.values("the crashed node joined", ring, 1, 2, 11, 12, 21, 22, 31, 32);
        Due.keys("the crashed node joined", ring, 20, 1, 2, 11, 12);
        for (int id : new int[] {1, 11, 32}) {
            Due.join(ring, id);
            Due.values("a node joined on a key", ring, 1, 2, 11, 12, 21, 22, 31, 32);
        }
        Due.counts("nodes joined on keys", ring, 7, 8, 0);
    }

    private static void countAndValuesStayAndPendingIsZero() {
        Due.sentence("keyCount is unchanged, every V(k) is unchanged and P becomes 0.");
        ChordRing ring = Sample.broken();
        Due.due("crash(40)", ring.crash(40), 0);
        Due.put(ring, 36);
        Due.due("put(37, 0)", ring.put(37, 0), ChordRing.OK);
        Due.join(ring, 36);
        Due.counts("36 joined", ring, 3, 6, 0);
        Due.values("36 joined", ring, 5, 15, 35, 36, 250);
        Due.due("a stored 0", ring.valueOf(37), 0);
        Due.holders("a stored 0", ring, 37, 10, 30);
        ChordRing empty = Sample.crashedOut();
        Due.join(empty, 5);
        Due.counts("joined where all had crashed", empty, 1, 0, 0);
    }

    private static void everyIdInRangeIsOk() {
        Due.sentence("The answer is OK. (join)");
        for (int id = 0; id < ChordRing.RING; id++) {
            ChordRing ring = new ChordRing(8, 8, 1);
            Due.due("join(" + id + ")", ring.join(id), ChordRing.OK);
            Due.due("isLive(" + id + ")", ring.isLive(id), true);
            Due.due("lookup from " + id, ring.lookup(id, 77), id);
            Due.counts("one node", ring, 1, 0, 0);
        }
    }

    private static void aCrashedIdMayJoinAgain() {
        Due.sentence("A crashed id is not live, so it may join again.");
        ChordRing ring = new ChordRing(8, 8, 1);
        Due.join(ring, 10, 20);
        Due.put(ring, 5, 15);
        Due.due("crash(10)", ring.crash(10), 1);
        Due.due("join(10) again", ring.join(10), ChordRing.OK);
        Due.counts("joined again", ring, 2, 1, 0);
        Due.keys("joined again without its keys", ring, 10);
        Due.holders("a lost key stays lost", ring, 5);
        Due.put(ring, 5);
        Due.keys("put again", ring, 10, 5);
        Due.due("crash(10)", ring.crash(10), 1);
        Due.due("crash(20)", ring.crash(20), 1);
        Due.due("join(20) on an empty ring", ring.join(20), ChordRing.OK);
        Due.counts("all crashed, one joined again", ring, 1, 0, 0);
    }
}
