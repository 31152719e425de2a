/** Promise 12: lookup; a test for each sentence. */
public final class LookupTest {
    public static void main(String[] args) {
        noneForFromOutOfRange();
        noneForFromNotLive();
        noneForKeyOutOfRange();
        theFirstLiveNodeClockwise();
        aLiveKeyIsItsOwnAnswer();
        wrapAround();
        anyLiveNodeMayAsk();
        storedOrNot();
        theFirstHolderOfAStoredKey();
        Due.finish();
    }

    private static void noneForFromOutOfRange() {
        Due.sentence("The answer is NONE if from is not in range,");
        ChordRing ring = Sample.fresh();
        Due.join(ring, 0, 1, 10, 128, 255);
        for (int from : Due.OUT_OF_RANGE) {
            for (int key : new int[] {0, 10, 11, 255, -1, 256}) {
                Due.due("lookup(" + from + ", " + key + ")", ring.lookup(from, key), ChordRing.NONE);
            }
            Due.due("lookup(" + from + ", same)", ring.lookup(from, from), ChordRing.NONE);
        }
    }

    private static void noneForFromNotLive() {
        Due.sentence("from is not live,");
        ChordRing ring = Sample.broken();
        for (int from = 0; from < ChordRing.RING; from++) {
            boolean live = from == 10 || from == 30 || from == 40;
            Due.due("lookup(" + from + ", 5)", ring.lookup(from, 5), live ? 10 : ChordRing.NONE);
        }
        for (int from : new int[] {0, 10, 20, 255}) {
            Due.due("all crashed", Sample.crashedOut().lookup(from, 5), ChordRing.NONE);
            Due.due("all left", Sample.leftEmpty().lookup(from, 5), ChordRing.NONE);
        }
    }

    private static void noneForKeyOutOfRange() {
        Due.sentence("or key is not in range.");
        ChordRing ring = Sample.broken();
        for (int key : Due.OUT_OF_RANGE) {
            Due.due("lookup(10, " + key + ")", ring.lookup(10, key), ChordRing.NONE);
            Due.due("lookup(20, " + key + ")", ring.lookup(20, key), ChordRing.NONE);
        }
    }

    private static void theFirstLiveNodeClockwise() {
        Due.sentence("Otherwise the answer is succ(key), the first live node clockwise from key,");
        ChordRing ring = Sample.broken();
        for (int key = 0; key < ChordRing.RING; key++) {
            int want = key <= 10 || key > 40 ? 10 : key <= 30 ? 30 : 40;
            Due.due("lookup(30, " + key + ")", ring.lookup(30, key), want);
        }
        ChordRing one = Sample.fresh();
        Due.join(one, 77);
        for (int key = 0; key < ChordRing.RING; key++) {
            Due.due("lookup(77, " + key + ")", one.lookup(77, key), 77);
        }
    }

    private static void aLiveKeyIsItsOwnAnswer() {
        Due.sentence("which is key itself if key is live.");
        for (int key = 0; key < ChordRing.RING; key++) {
            ChordRing ring = Sample.fresh();
            Due.join(ring, key, (key + 1) % 256, (key + 255) % 256);
            Due.due("lookup(" + key + ") at itself", ring.lookup(key, key), key);
            Due.due("lookup(" + key + ") next to it", ring.lookup((key + 1) % 256, key), key);
        }
    }

    private static void wrapAround() {
        Due.sentence("Wrap-around is included: with key 250 and live nodes {10, 100}, the answer is 10.");
        ChordRing ring = new ChordRing(8, 8, 1);
        Due.join(ring, 10, 100);
        Due.due("lookup(10, 250)", ring.lookup(10, 250), 10);
        Due.due("lookup(100, 250)", ring.lookup(100, 250), 10);
        Due.due("lookup(100, 101)", ring.lookup(100, 101), 10);
        Due.due("lookup(100, 255)", ring.lookup(100, 255), 10);
        Due.due("lookup(100, 0)", ring.lookup(100, 0), 10);
        ChordRing edges = new ChordRing(8, 8, 1);
        Due.join(edges, 0);
        Due.due("lookup(0, 255) with 0 alone", edges.lookup(0, 255), 0);
        Due.join(edges, 255);
        Due.due("lookup(0, 255)", edges.lookup(0, 255), 255);
        Due.due("lookup(255, 0)", edges.lookup(255, 0), 0);
        Due.due("lookup(0, 1)", edges.lookup(0, 1), 255);
        Due.due("leave(0)", edges.leave(0), ChordRing.OK);
        Due.due("lookup(255, 0) with 255 alone", edges.lookup(255, 0), 255);
    }

    private static void anyLiveNodeMayAsk() {
        Due.sentence("The answer does not depend on which live node asks,");
        ChordRing ring = Sample.fullOfNodes();
        for (int key = 0; key < ChordRing.RING; key++) {
            for (int from = 20; from <= 80; from += 10) {
                Due.due("lookup(" + from + ", " + key + ")", ring.lookup(from, key), ring.lookup(10, key));
            }
        }
    }

    private static void storedOrNot() {
        Due.sentence("nor on whether the key is stored.");
        ChordRing ring = Sample.broken();
        Due.due("lookup(10, 16), not stored", ring.lookup(10, 16), 30);
        Due.put(ring, 16);
        Due.due("lookup(10, 16), stored", ring.lookup(10, 16), 30);
        Due.due("remove(16)", ring.remove(16), ChordRing.OK);
        Due.due("lookup(10, 16), removed", ring.lookup(10, 16), 30);
        Due.due("lookup(10, 20), a crashed node, not stored", ring.lookup(10, 20), 30);
    }

    private static void theFirstHolderOfAStoredKey() {
        Due.sentence("For a stored key and a live from, it equals holderAt(key, 0).");
        ChordRing ring = Sample.broken();
        for (int key : new int[] {5, 15, 35, 250}) {
            for (int from : new int[] {10, 30, 40}) {
                Due.due("lookup(" + from + ", " + key + ")", ring.lookup(from, key), ring.holderAt(key, 0));
            }
        }
        Due.due("a first holder, crashed", ring.crash(40), 0);
        Due.due("lookup(30, 35)", ring.lookup(30, 35), 10);
        Due.due("holderAt(35, 0)", ring.holderAt(35, 0), 10);
    }
}
