import java.util.function.Supplier;

/** Promise 5: stabilise; a test for each sentence. */
public final class StabiliseTest {
    public static void main(String[] args) {
        alwaysAccepted();
        liveStays();
        keysAndValuesStayAndHoldersAreTop();
        pendingIsZeroInEveryCase();
        theAnswerCountsNewPairs();
        onlyStoredKeysCount();
        everyPairCountedHoldsAfterwards();
        copiesMadeBeforeDoNotCount();
        neverBelow0();
        zeroWithoutNodes();
        zeroWithoutCrashes();
        Due.finish();
    }

    private static void alwaysAccepted() {
        Due.sentence("It is always accepted and runs REPAIR.");
        for (Supplier<ChordRing> make : Sample.all()) {
            ChordRing ring = make.get();
            Due.due("stabilise() is not refused", ring.stabilise() >= 0, true);
            Due.due("stabilise() again", ring.stabilise(), 0);
        }
    }

    private static void liveStays() {
        Due.sentence("LIVE is unchanged. (stabilise)");
        ChordRing ring = Sample.broken();
        ring.stabilise();
        Due.live("stabilised", ring, 10, 30, 40);
        ChordRing empty = Sample.crashedOut();
        empty.stabilise();
        Due.live("stabilised without nodes", empty);
        ChordRing full = Sample.fullOfNodes();
        full.stabilise();
        Due.live("stabilised, full", full, 10, 20, 30, 40, 50, 60, 70, 80);
    }

    private static void keysAndValuesStayAndHoldersAreTop() {
        Due.sentence("If L > 0, no key is removed, every V(k) is unchanged and every H(k) becomes top(k).");
        ChordRing ring = Sample.broken();
        ring.stabilise();
        Due.due("keyCount()", ring.keyCount(), 4);
        Due.values("stabilised", ring, 5, 15, 35, 250);
        Due.holders("stabilised", ring, 5, 10, 30);
        Due.holders("stabilised", ring, 15, 30, 40);
        Due.holders("stabilised", ring, 35, 40, 10);
        Due.holders("stabilised", ring, 250, 10, 30);
        ChordRing one = new ChordRing(8, 8, 3);
        Due.join(one, 10, 20);
        Due.put(one, 5, 15);
        Due.due("crash(10)", one.crash(10), 0);
        one.stabilise();
        Due.keys("one node is left", one, 20, 5, 15);
        Due.holders("one node is left", one, 5, 20);
        Due.values("one node is left", one, 5, 15);
    }

    private static void pendingIsZeroInEveryCase() {
        Due.sentence("P becomes 0 in every case.");
        for (Supplier<ChordRing> make : Sample.all()) {
            ChordRing ring = make.get();
            ring.stabilise();
            Due.due("pendingCrashes()", ring.pendingCrashes(), 0);
        }
        ChordRing many = Sample.fullOfNodes();
        for (int id = 10; id <= 70; id += 10) {
            many.crash(id);
        }
        Due.due("pendingCrashes() before", many.pendingCrashes(), 7);
        many.stabilise();
        Due.due("pendingCrashes() after", many.pendingCrashes(), 0);
    }

    private static void theAnswerCountsNewPairs() {
        Due.sentence("This is the number of replica copies created.");
        ChordRing ring = new ChordRing(8, 8, 3);
        Due.join(ring, 10, 20, 30, 40, 50);
        Due.put(ring, 5, 15, 25, 45);
        Due.due("crash(20)", ring.crash(20), 0);
        Due.due("crash(30)", ring.crash(30), 0);
        Due.holders("crashed", ring, 5, 10);
        Due.holders("crashed", ring, 15, 40);
        Due.holders("crashed", ring, 25, 40, 50);
        Due.holders("crashed", ring, 45, 50, 10);
        Due.due("stabilise()", ring.stabilise(), 2 + 2 + 1 + 1);
        Due.holders("stabilised", ring, 5, 10, 40, 50);
        Due.holders("stabilised", ring, 15, 40, 50, 10);
        Due.holders("stabilised", ring, 25, 40, 50, 10);
        Due.holders("stabilised", ring, 45, 50, 10, 40);
        Due.due("broken ring", Sample.broken().stabilise(), 3);
        Due.due("full store", Sample.fullOfKeys().stabilise(), 4);
    }

    private static void onlyStoredKeysCount() {
        Due.sentence("k is stored after the call,");
        ChordRing ring = Sample.broken();
        Due.due("remove(15)", ring.remove(15), ChordRing.OK);
        Due.due("stabilise() after a remove", ring.stabilise(), 2);
        ChordRing lost = Sample.broken();
        Due.due("crash(10)", lost.crash(10), 2);
        Due.due("stabilise() after a loss", lost.stabilise(), 2);
    }

    private static void everyPairCountedHoldsAfterwards() {
        Due.sentence("n is in H(k) after the call, and");
        for (int crashed = 10; crashed <= 40; crashed += 10) {
            ChordRing ring = Sample.whole();
            ring.crash(crashed);
            int before = copies(ring);
            int answer = ring.stabilise();
            Due.due("crash(" + crashed + "), then stabilise()", answer, copies(ring) - before);
        }
    }

    private static int copies(ChordRing ring) {
        int count = 0;
        for (int node = 0; node < ChordRing.RING; node++) {
            for (int key = 0; key < ChordRing.RING; key++) {
                count += ring.holds(node, key) ? 1 : 0;
            }
        }
        return count;
    }

    private static void copiesMadeBeforeDoNotCount() {
        Due.sentence("n was not in H(k) before it.");
        ChordRing ring = Sample.broken();
        Due.put(ring, 5, 15);
        Due.due("stabilise() after two of three were put again", ring.stabilise(), 1);
        ChordRing all = Sample.broken();
        Due.put(all, 5, 15, 250);
        Due.due("stabilise() after all were put again", all.stabilise(), 0);
        ChordRing few = new ChordRing(8, 8, 3);
        Due.join(few, 10, 20, 30);
        Due.put(few, 5, 15);
        Due.due("crash(20)", few.crash(20), 0);
        Due.due("stabilise() with every node a holder", few.stabilise(), 0);
        Due.counts("with every node a holder", few, 2, 2, 0);
        ChordRing single = new ChordRing(8, 8, 1);
        Due.join(single, 10, 20, 30);
        Due.put(single, 5, 15);
        Due.due("crash(10)", single.crash(10), 1);
        Due.due("stabilise() with R 1", single.stabilise(), 0);
    }

    private static void neverBelow0() {
        Due.sentence("The answer is 0 or more.");
        ChordRing ring = new ChordRing(8, 8, 3);
        Due.join(ring, 10, 20, 30, 40);
        Due.put(ring, 5, 15, 25, 35);
        int[] want = {3, 0, 0, 0};
        for (int i = 0; i < 4; i++) {
            ring.crash(10 * i + 10);
            Due.due("stabilise() with " + ring.nodeCount() + " nodes", ring.stabilise(), want[i]);
        }
    }

    private static void zeroWithoutNodes() {
        Due.sentence("It is 0 when L == 0,");
        Due.due("at the start", Sample.fresh().stabilise(), 0);
        Due.due("all have left", Sample.leftEmpty().stabilise(), 0);
        ChordRing ring = Sample.crashedOut();
        Due.due("all have crashed", ring.stabilise(), 0);
        Due.counts("all have crashed", ring, 0, 0, 0);
    }

    private static void zeroWithoutCrashes() {
        Due.sentence("and 0 when P was already 0, since then every H(k) already equals top(k).");
        ChordRing whole = Sample.whole();
        Due.due("no crash", whole.stabilise(), 0);
        Due.unchanged("stabilise() without a crash", whole, Sample.whole());
        Due.due("full ring", Sample.fullOfNodes().stabilise(), 0);
        ChordRing joined = Sample.broken();
        Due.join(joined, 25);
        Due.due("a join has repaired", joined.stabilise(), 0);
        ChordRing left = Sample.broken();
        Due.due("leave(40)", left.leave(40), ChordRing.OK);
        Due.due("a leave has repaired", left.stabilise(), 0);
        ChordRing again = Sample.broken();
        Due.due("stabilise()", again.stabilise(), 3);
        Due.due("stabilise() has repaired", again.stabilise(), 0);
    }
}
