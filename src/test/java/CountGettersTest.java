/** Promises 8 to 11: isLive, nodeCount, keyCount and pendingCrashes; a test for each sentence. */
public final class CountGettersTest {
    public static void main(String[] args) {
        isLiveTellsTheLiveNodes();
        isLiveIsFalseOutOfRange();
        nodeCountFrom0ToMaxNodes();
        keyCountFrom0ToMaxKeys();
        keyCountIs0WithoutNodes();
        pendingCrashesSinceTheLastRepair();
        pendingCrashesIs0AfterARepair();
        pendingCrashesGrowsByOne();
        putAndRemoveLeavePendingCrashes();
        Due.finish();
    }

    private static void isLiveTellsTheLiveNodes() {
        Due.sentence("is true iff id is in range and in LIVE.");
        ChordRing ring = Sample.broken();
        Due.live("a crash pending", ring, 10, 30, 40);
        Due.join(ring, 0, 255);
        Due.live("the edges joined", ring, 0, 10, 30, 40, 255);
        Due.due("leave(255)", ring.leave(255), ChordRing.OK);
        Due.due("crash(0)", ring.crash(0), 0);
        Due.live("the edges gone", ring, 10, 30, 40);
        Due.live("all crashed", Sample.crashedOut());
    }

    private static void isLiveIsFalseOutOfRange() {
        Due.sentence("Any out-of-range id gives false.");
        ChordRing ring = Sample.fresh();
        Due.join(ring, 0, 1, 10, 128, 254, 255);
        for (int id : Due.OUT_OF_RANGE) {
            Due.due("isLive(" + id + ")", ring.isLive(id), false);
        }
        for (int id = 256; id < 600; id++) {
            Due.due("isLive(" + id + ")", ring.isLive(id), false);
            Due.due("isLive(" + (255 - id) + ")", ring.isLive(255 - id), false);
        }
    }

    private static void nodeCountFrom0ToMaxNodes() {
        Due.sentence("answers L, the number of live nodes: from 0 to maxNodes.");
        ChordRing ring = new ChordRing(32, 8, 1);
        Due.due("nodeCount() at the start", ring.nodeCount(), 0);
        for (int id = 0; id < 32; id++) {
            Due.join(ring, id * 8);
            Due.due("nodeCount()", ring.nodeCount(), id + 1);
        }
        Due.due("one more", ring.join(1), ChordRing.ERR_FULL);
        Due.due("nodeCount() past the end", ring.nodeCount(), 32);
        for (int id = 0; id < 32; id++) {
            Due.due("departure", id % 2 == 0 ? ring.leave(id * 8) : ring.crash(id * 8), 0);
            Due.due("nodeCount()", ring.nodeCount(), 31 - id);
        }
        Due.due("one less", ring.leave(0), ChordRing.ERR_NOT_LIVE);
        Due.due("one less", ring.crash(0), ChordRing.ERR_NOT_LIVE);
        Due.due("nodeCount() below the start", ring.nodeCount(), 0);
    }

    private static void keyCountFrom0ToMaxKeys() {
        Due.sentence("answers the number of stored keys: from 0 to maxKeys.");
        ChordRing ring = new ChordRing(8, 32, 1);
        Due.join(ring, 100, 200);
        Due.due("keyCount() without keys", ring.keyCount(), 0);
        for (int i = 0; i < 32; i++) {
            Due.put(ring, i * 8);
            Due.due("keyCount()", ring.keyCount(), i + 1);
        }
        Due.due("one more", ring.put(1, 1), ChordRing.ERR_FULL);
        Due.due("keyCount() past the end", ring.keyCount(), 32);
        Due.due("remove(0)", ring.remove(0), ChordRing.OK);
        Due.due("keyCount()", ring.keyCount(), 31);
        Due.due("crash(200), keys 104 to 200", ring.crash(200), 13);
        Due.due("keyCount()", ring.keyCount(), 18);
        for (int i = 0; i < 32; i++) {
            ring.remove(i * 8);
        }
        Due.due("one less", ring.remove(8), ChordRing.ERR_NO_KEY);
        Due.due("keyCount() below the start", ring.keyCount(), 0);
    }

    private static void keyCountIs0WithoutNodes() {
        Due.sentence("It is 0 whenever L == 0.");
        Due.due("at the start", Sample.fresh().keyCount(), 0);
        Due.due("all have crashed", Sample.crashedOut().keyCount(), 0);
        Due.due("all have left", Sample.leftEmpty().keyCount(), 0);
        ChordRing ring = Sample.fullOfKeys();
        Due.due("crash(10)", ring.crash(10), 2);
        Due.due("leave(30)", ring.leave(30), ChordRing.OK);
        Due.due("leave(40)", ring.leave(40), ChordRing.OK);
        Due.due("put without nodes", ring.put(1, 1), ChordRing.ERR_EMPTY);
        Due.due("keyCount()", ring.keyCount(), 0);
    }

    private static void pendingCrashesSinceTheLastRepair() {
        Due.sentence("answers P, the number of crashes since the last REPAIR (join, leave or stabilise).");
        ChordRing ring = Sample.fullOfNodes();
        ring.crash(10);
        ring.crash(20);
        ring.stabilise();
        ring.crash(30);
        Due.due("one since stabilise", ring.pendingCrashes(), 1);
        ring.join(10);
        ring.crash(40);
        ring.crash(10);
        Due.due("two since join", ring.pendingCrashes(), 2);
        ring.leave(50);
        ring.crash(60);
        Due.due("one since leave", ring.pendingCrashes(), 1);
    }

    private static void pendingCrashesIs0AfterARepair() {
        Due.sentence("It is 0 at the start and right after every accepted join, leave or stabilise.");
        Due.due("at the start", Sample.fresh().pendingCrashes(), 0);
        ChordRing joined = Sample.broken();
        Due.join(joined, 50);
        Due.due("after join", joined.pendingCrashes(), 0);
        ChordRing left = Sample.broken();
        Due.due("leave(10)", left.leave(10), ChordRing.OK);
        Due.due("after leave", left.pendingCrashes(), 0);
        ChordRing mended = Sample.broken();
        mended.stabilise();
        Due.due("after stabilise", mended.pendingCrashes(), 0);
        ChordRing refused = Sample.broken();
        refused.join(10);
        refused.join(256);
        refused.leave(20);
        refused.leave(-1);
        Due.due("after refused joins and leaves", refused.pendingCrashes(), 1);
    }

    private static void pendingCrashesGrowsByOne() {
        Due.sentence("It grows by one with every accepted crash.");
        ChordRing ring = Sample.fullOfNodes();
        for (int i = 1; i <= 8; i++) {
            ring.crash(10 * i);
            Due.due("accepted", ring.pendingCrashes(), i);
            ring.crash(10 * i);
            ring.crash(10 * i + 256);
            Due.due("refused", ring.pendingCrashes(), i);
        }
    }

    private static void putAndRemoveLeavePendingCrashes() {
        Due.sentence("Put and remove leave it unchanged.");
        ChordRing ring = Sample.broken();
        Due.put(ring, 5, 6);
        Due.due("after put", ring.pendingCrashes(), 1);
        Due.due("remove(5)", ring.remove(5), ChordRing.OK);
        Due.due("after remove", ring.pendingCrashes(), 1);
        ring.put(256, 1);
        ring.remove(5);
        Due.due("after a refused put and remove", ring.pendingCrashes(), 1);
    }
}
