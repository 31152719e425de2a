/** Keys on a consistent-hashing ring of nodes with replicas, as ../shared/DOC.md promises. */
public final class ChordRing {
    public static final int OK = 0;
    public static final int ERR_RANGE = -1;
    public static final int ERR_LIVE = -2;
    public static final int ERR_NOT_LIVE = -3;
    public static final int ERR_FULL = -4;
    public static final int ERR_EMPTY = -5;
    public static final int ERR_NO_KEY = -6;
    public static final int NONE = -1;
    public static final int RING = 256;

    private static final int LEAST_CAPACITY = 8;
    private static final int GREATEST_CAPACITY = 32;
    private static final int LEAST_REPLICAS = 1;
    private static final int GREATEST_REPLICAS = 3;

    private final int maxNodes;
    private final int maxKeys;
    private final int maxCopies;

    private final boolean[] live = new boolean[RING];
    private final int[] values = new int[RING];

    // The holders of a key are always the first copies[key] live nodes clockwise from it, so
    // their number alone tells who they are: put and repair take the first live nodes, a crash
    // among the holders leaves the others still first, a crash beyond them moves no one before
    // them, and every join or leave repairs. A stored key has a holder, so 0 means not stored.
    private final int[] copies = new int[RING];

    private int liveNodes = 0;
    private int storedKeys = 0;
    private int crashesSinceRepair = 0;

    public ChordRing(int maxNodes, int maxKeys, int replicas) {
        this.maxNodes = clamp(maxNodes, LEAST_CAPACITY, GREATEST_CAPACITY);
        this.maxKeys = clamp(maxKeys, LEAST_CAPACITY, GREATEST_CAPACITY);
        this.maxCopies = clamp(replicas, LEAST_REPLICAS, GREATEST_REPLICAS);
    }

    public int join(int id) {
        if (!inRange(id)) {
            return ERR_RANGE;
        }
        if (live[id]) {
            return ERR_LIVE;
        }
        if (liveNodes == maxNodes) {
            return ERR_FULL;
        }
        live[id] = true;
        liveNodes++;
        repair();
        return OK;
    }

    public int leave(int id) {
        if (!inRange(id)) {
            return ERR_RANGE;
        }
        if (!live[id]) {
            return ERR_NOT_LIVE;
        }
        live[id] = false;
        liveNodes--;
        repair();
        return OK;
    }

    public int crash(int id) {
        if (!inRange(id)) {
            return ERR_RANGE;
        }
        if (!live[id]) {
            return ERR_NOT_LIVE;
        }
        // Who holds a key is read off the live nodes, so the copies go before the node does.
        int lost = dropCopiesAt(id);
        live[id] = false;
        liveNodes--;
        storedKeys -= lost;
        crashesSinceRepair++;
        return lost;
    }

    public int stabilise() {
        int created = missingCopies();
        repair();
        return created;
    }

    public int put(int key, int value) {
        if (!inRange(key)) {
            return ERR_RANGE;
        }
        if (liveNodes == 0) {
            return ERR_EMPTY;
        }
        if (!isStored(key)) {
            if (storedKeys == maxKeys) {
                return ERR_FULL;
            }
            storedKeys++;
        }
        values[key] = value;
        copies[key] = fullCopies();
        return OK;
    }

    public int remove(int key) {
        if (!inRange(key)) {
            return ERR_RANGE;
        }
        if (!isStored(key)) {
            return ERR_NO_KEY;
        }
        copies[key] = 0;
        storedKeys--;
        return OK;
    }

    public boolean isLive(int id) {
        return inRange(id) && live[id];
    }

    public int nodeCount() {
        return liveNodes;
    }

    public int keyCount() {
        return storedKeys;
    }

    public int pendingCrashes() {
        return crashesSinceRepair;
    }

    public int lookup(int from, int key) {
        if (!inRange(from) || !live[from] || !inRange(key)) {
            return NONE;
        }
        return liveNodeFrom(key, 0);
    }

    public int valueOf(int key) {
        if (!inRange(key) || !isStored(key)) {
            return 0;
        }
        return values[key];
    }

    public int holderAt(int key, int i) {
        if (!inRange(key) || i < 0 || i >= copies[key]) {
            return NONE;
        }
        return liveNodeFrom(key, i);
    }

    public boolean holds(int node, int key) {
        return inRange(node) && inRange(key) && isHolder(node, key);
    }

    public int keysAt(int node) {
        if (!inRange(node)) {
            return 0;
        }
        int count = 0;
        for (int key = 0; key < RING; key++) {
            if (isHolder(node, key)) {
                count++;
            }
        }
        return count;
    }

    public int keyAt(int node, int index) {
        if (!inRange(node) || index < 0) {
            return NONE;
        }
        int position = 0;
        for (int key = 0; key < RING; key++) {
            if (isHolder(node, key)) {
                if (position == index) {
                    return key;
                }
                position++;
            }
        }
        return NONE;
    }

    private static int clamp(int value, int least, int greatest) {
        if (value < least) {
            return least;
        }
        if (value > greatest) {
            return greatest;
        }
        return value;
    }

    private static boolean inRange(int x) {
        return x >= 0 && x < RING;
    }

    private boolean isStored(int key) {
        return copies[key] > 0;
    }

    private boolean isHolder(int node, int key) {
        return isStored(key) && live[node] && liveNodesBefore(node, key) < copies[key];
    }

    /** The number of live nodes nearer than node, clockwise from key. */
    private int liveNodesBefore(int node, int key) {
        int distance = (node - key + RING) % RING;
        int count = 0;
        for (int step = 0; step < distance; step++) {
            if (live[(key + step) % RING]) {
                count++;
            }
        }
        return count;
    }

    /** The live node at the given position (0 = first) clockwise from key, or NONE. */
    private int liveNodeFrom(int key, int position) {
        int passed = 0;
        for (int step = 0; step < RING; step++) {
            int node = (key + step) % RING;
            if (live[node]) {
                if (passed == position) {
                    return node;
                }
                passed++;
            }
        }
        return NONE;
    }

    private int fullCopies() {
        return liveNodes < maxCopies ? liveNodes : maxCopies;
    }

    private void repair() {
        int full = fullCopies();
        for (int key = 0; key < RING; key++) {
            if (isStored(key)) {
                copies[key] = full;
            }
        }
        // Without a live node, full is 0, and the loop has just removed every key.
        if (liveNodes == 0) {
            storedKeys = 0;
        }
        crashesSinceRepair = 0;
    }

    private int missingCopies() {
        int full = fullCopies();
        int missing = 0;
        for (int key = 0; key < RING; key++) {
            if (isStored(key)) {
                missing += full - copies[key];
            }
        }
        return missing;
    }

    /** Takes every copy away from node; answers how many keys lost their last copy. */
    private int dropCopiesAt(int node) {
        int lost = 0;
        for (int key = 0; key < RING; key++) {
            if (isHolder(node, key)) {
                copies[key]--;
                if (!isStored(key)) {
                    lost++;
                }
            }
        }
        return lost;
    }
}
