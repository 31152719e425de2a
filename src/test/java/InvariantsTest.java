/** What holds 'in every state reached from a fresh object by any sequence of calls', told by getters alone. */
public final class InvariantsTest {
    private static final int CALLS = 500;
    private static final String WAYS_OUT = "A key leaves STORE only by remove, by leave or crash of the"
        + " last live node, or by a crash that answers a positive count while the crashed node was"
        + " that key's only holder.";

    // How often a key left the store, by each way out: a way that no run took would go untested.
    private static int byRemove = 0;
    private static int byLastLeave = 0;
    private static int byLastCrash = 0;
    private static int byLoss = 0;

    private enum Call { JOIN, LEAVE, CRASH, STABILISE, PUT, REMOVE }

    private static final Call[] GROW = {
        Call.JOIN, Call.JOIN, Call.JOIN, Call.PUT, Call.PUT, Call.PUT, Call.CRASH, Call.REMOVE};
    private static final Call[] SHRINK = {
        Call.LEAVE, Call.CRASH, Call.CRASH, Call.PUT, Call.PUT, Call.PUT, Call.STABILISE, Call.REMOVE};

    private final ChordRing ring;
    private final int replicas;
    private long seed;

    private InvariantsTest(int maxNodes, int maxKeys, int replicas, long seed) {
        this.ring = new ChordRing(maxNodes, maxKeys, replicas);
        this.replicas = replicas;
        this.seed = seed;
    }

    public static void main(String[] args) {
        for (int replicas = 1; replicas <= 3; replicas++) {
            new InvariantsTest(8, 8, replicas, 17 + replicas).run(16);
            new InvariantsTest(32, 32, replicas, 27 + replicas).run(64);
            new InvariantsTest(12, 32, replicas, 37 + replicas).run(256);
        }
        Due.sentence(WAYS_OUT);
        Due.due("keys left by remove", byRemove > 0, true);
        Due.due("keys left by a leave of the last live node", byLastLeave > 0, true);
        Due.due("keys left by a crash of the last live node", byLastCrash > 0, true);
        Due.due("keys left by a crash of their only holder", byLoss > 0, true);
        Due.finish();
    }

    private void run(int spread) {
        for (int i = 0; i < CALLS && !Due.anyWrong(); i++) {
            callOnce(i / 40 % 2 == 0 ? GROW : SHRINK, spread);
            for (int key = 0; key < ChordRing.RING; key++) {
                if (stored(key)) {
                    everyLiveNodeFindsTheFirstHolder(key);
                    between1AndRLiveHolders(key);
                    holdersAreTopWithoutCrashes(key);
                }
            }
            keyCountIsTheNumberOfStoredKeys();
        }
    }

    private void everyLiveNodeFindsTheFirstHolder(int key) {
        Due.sentence("for every live node n, lookup(n, k) == holderAt(k, 0);");
        for (int node = 0; node < ChordRing.RING; node++) {
            if (ring.isLive(node)) {
                Due.due("lookup(" + node + ", " + key + ")", ring.lookup(node, key), ring.holderAt(key, 0));
            }
        }
    }

    private void between1AndRLiveHolders(int key) {
        Due.sentence("the number of positions i with holderAt(k, i) != NONE is between 1 and R,"
            + " and each such holder is live;");
        int count = 0;
        for (int i = -1; i < 40; i++) {
            int node = ring.holderAt(key, i);
            if (node != ChordRing.NONE) {
                count++;
                Due.due("holder " + node + " of " + key + " is live", ring.isLive(node), true);
                Due.due("holder " + node + " holds " + key, ring.holds(node, key), true);
            }
        }
        Due.due("holders of " + key + " between 1 and R: " + count, count >= 1 && count <= replicas, true);
    }

    private void holdersAreTopWithoutCrashes(int key) {
        Due.sentence("if pendingCrashes() == 0, the holders of k are exactly top(k):");
        if (ring.pendingCrashes() != 0) {
            return;
        }
        int nearer = 0;
        for (int distance = 0; distance < ChordRing.RING; distance++) {
            int node = (key + distance) % ChordRing.RING;
            boolean want = ring.isLive(node) && nearer < replicas;
            Due.due("holds(" + node + ", " + key + ")", ring.holds(node, key), want);
            nearer += ring.isLive(node) ? 1 : 0;
        }
    }

    private void keyCountIsTheNumberOfStoredKeys() {
        Due.sentence("keyCount = |STORE|,");
        int count = 0;
        for (int key = 0; key < ChordRing.RING; key++) {
            count += stored(key) ? 1 : 0;
        }
        Due.due("keyCount()", ring.keyCount(), count);
    }

    private boolean stored(int key) {
        return ring.holderAt(key, 0) != ChordRing.NONE;
    }

    /** A number of 0 to bound - 1, the same in every run of the test. */
    private int next(int bound) {
        seed = seed * 6364136223846793005L + 1442695040888963407L;
        return (int) ((seed >>> 33) % bound);
    }

    /** Mostly an id that the call can use: of all ids, few are live or stored. */
    private int anId(Call call, int spread) {
        int id = (next(spread) + 248) % ChordRing.RING;
        boolean aimed = next(5) != 0;
        for (int step = 0; aimed && step < ChordRing.RING; step++) {
            int near = (id + step) % ChordRing.RING;
            boolean departs = call == Call.LEAVE || call == Call.CRASH;
            if (departs && ring.isLive(near) || call == Call.REMOVE && stored(near)) {
                return near;
            }
        }
        return id;
    }

    private int answerOf(Call call, int id) {
        return switch (call) {
            case JOIN -> ring.join(id);
            case LEAVE -> ring.leave(id);
            case CRASH -> ring.crash(id);
            case STABILISE -> ring.stabilise();
            case PUT -> ring.put(id, id - 100);
            case REMOVE -> ring.remove(id);
        };
    }

    private void callOnce(Call[] choice, int spread) {
        Call call = choice[next(choice.length)];
        int id = anId(call, spread);
        boolean[] was = new boolean[ChordRing.RING];
        boolean[] alone = new boolean[ChordRing.RING];
        for (int key = 0; key < ChordRing.RING; key++) {
            was[key] = stored(key);
            alone[key] = ring.holderAt(key, 0) == id && ring.holderAt(key, 1) == ChordRing.NONE;
        }
        boolean last = ring.nodeCount() == 1 && ring.isLive(id);
        int answer = answerOf(call, id);
        Due.sentence(WAYS_OUT);
        for (int key = 0; key < ChordRing.RING; key++) {
            if (was[key] && !stored(key)) {
                boolean rightly = leftRightly(call, answer, last, key == id, alone[key]);
                Due.due(call + " " + id + ": key " + key + " left the store rightly", rightly, true);
            }
        }
    }

    private static boolean leftRightly(Call call, int answer, boolean last, boolean named, boolean alone) {
        if (call == Call.REMOVE && named && answer == ChordRing.OK) {
            byRemove++;
        } else if (call == Call.LEAVE && last) {
            byLastLeave++;
        } else if (call == Call.CRASH && last) {
            byLastCrash++;
        } else if (call == Call.CRASH && answer > 0 && alone) {
            byLoss++;
        } else {
            return false;
        }
        return true;
    }
}
