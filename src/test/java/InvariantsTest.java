/** What holds 'in every state reached from a fresh object by any sequence of calls', told by getters alone. */
public final class InvariantsTest {
    private static final int CALLS = 500;

    private final ChordRing ring;
    private final int replicas;
    private long seed;

    private InvariantsTest(int maxNodes, int maxKeys, int replicas, long seed) {
        this.ring = new ChordRing(maxNodes, maxKeys, replicas);
        this.replicas = replicas;
        this.seed = seed;
    }

    public static void main(String[] args) {
        for (int replicas = 1; replicas <= 3; replicas++) {
            new InvariantsTest(8, 8, replicas, 17 + replicas).run(16);
            new InvariantsTest(32, 32, replicas, 27 + replicas).run(64);
            new InvariantsTest(12, 32, replicas, 37 + replicas).run(256);
        }
        Due.finish();
    }

    private void run(int spread) {
        for (int i = 0; i < CALLS && !Due.anyWrong(); i++) {
            callOnce(spread);
            for (int key = 0; key < ChordRing.RING; key++) {
                if (stored(key)) {
                    everyLiveNodeFindsTheFirstHolder(key);
                    between1AndRLiveHolders(key);
                    holdersAreTopWithoutCrashes(key);
                }
            }
            keyCountIsTheNumberOfStoredKeys();
        }
    }

    private void everyLiveNodeFindsTheFirstHolder(int key) {
        Due.sentence("for every live node n, lookup(n, k) == holderAt(k, 0);");
        for (int node = 0; node < ChordRing.RING; node++) {
            if (ring.isLive(node)) {
                Due.due("lookup(" + node + ", " + key + ")", ring.lookup(node, key), ring.holderAt(key, 0));
            }
        }
    }

    private void between1AndRLiveHolders(int key) {
        Due.sentence("the number of positions i with holderAt(k, i) != NONE is between 1 and R,"
            + " and each such holder is live;");
        int count = 0;
        for (int i = -1; i < 40; i++) {
            int node = ring.holderAt(key, i);
            if (node != ChordRing.NONE) {
                count++;
                Due.due("holder " + node + " of " + key + " is live", ring.isLive(node), true);
                Due.due("holder " + node + " holds " + key, ring.holds(node, key), true);
            }
        }
        Due.due("holders of " + key + " between 1 and R: " + count, count >= 1 && count <= replicas, true);
    }

    private void holdersAreTopWithoutCrashes(int key) {
        Due.sentence("if pendingCrashes() == 0, the holders of k are exactly top(k):");
        if (ring.pendingCrashes() != 0) {
            return;
        }
        int nearer = 0;
        for (int distance = 0; distance < ChordRing.RING; distance++) {
            int node = (key + distance) % ChordRing.RING;
            boolean want = ring.isLive(node) && nearer < replicas;
            Due.due("holds(" + node + ", " + key + ")", ring.holds(node, key), want);
            nearer += ring.isLive(node) ? 1 : 0;
        }
    }

    private void keyCountIsTheNumberOfStoredKeys() {
        Due.sentence("keyCount = |STORE|,");
        int count = 0;
        for (int key = 0; key < ChordRing.RING; key++) {
            count += stored(key) ? 1 : 0;
        }
        Due.due("keyCount()", ring.keyCount(), count);
    }

    private boolean stored(int key) {
        return ring.holderAt(key, 0) != ChordRing.NONE;
    }

    /** A number of 0 to bound - 1, the same in every run of the test. */
    private int next(int bound) {
        seed = seed * 6364136223846793005L + 1442695040888963407L;
        return (int) ((seed >>> 33) % bound);
    }

    private void callOnce(int spread) {
        boolean[] was = new boolean[ChordRing.RING];
        boolean[] alone = new boolean[ChordRing.RING];
        int id = (next(spread) + 248) % ChordRing.RING;
        for (int key = 0; key < ChordRing.RING; key++) {
            was[key] = stored(key);
            alone[key] = ring.holderAt(key, 0) == id && ring.holderAt(key, 1) == ChordRing.NONE;
        }
        boolean last = ring.nodeCount() == 1 && ring.isLive(id);
        int call = next(20);
        int answer = answerOf(call, id);
        Due.sentence("A key leaves STORE only by remove, by leave or crash of the last live node, or by"
            + " a crash that answers a positive count while the crashed node was that key's only holder.");
        for (int key = 0; key < ChordRing.RING; key++) {
            if (was[key] && !stored(key)) {
                boolean removed = isRemove(call) && key == id && answer == ChordRing.OK;
                boolean lastGone = last && (isLeave(call) || isCrash(call));
                boolean lost = isCrash(call) && answer > 0 && alone[key];
                Due.due("key " + key + " left the store rightly", removed || lastGone || lost, true);
            }
        }
    }

    private static boolean isLeave(int call) {
        return call == 8 || call == 9;
    }

    private static boolean isCrash(int call) {
        return call >= 10 && call <= 13;
    }

    private static boolean isRemove(int call) {
        return call == 18;
    }

    private int answerOf(int call, int id) {
        if (call < 8) {
            return ring.join(id);
        }
        if (isLeave(call)) {
            return ring.leave(id);
        }
        if (isCrash(call)) {
            return ring.crash(id);
        }
        if (isRemove(call)) {
            return ring.remove(id);
        }
        return call == 19 ? ring.stabilise() : ring.put(id, call);
    }
}
