/** Counts and prints the answers that are not the ones due; shared by the tests. */
final class Due {
    /** Arguments out of range: next to the edges, far away, and in range only after a wrap or a mask. */
    static final int[] OUT_OF_RANGE = {
        -1, -2, -255, -256, -257, 256, 257, 266, 511, 512, 1000, 65536,
        Integer.MIN_VALUE, Integer.MIN_VALUE + 10, Integer.MAX_VALUE, Integer.MAX_VALUE - 245
    };

    private static int wrong = 0;

    private Due() {
    }

    static void due(String call, long got, long want) {
        if (got != want) {
            wrong++;
            System.out.println(call + " answered " + got + ", due is " + want);
        }
    }

    static void due(String call, boolean got, boolean want) {
        if (got != want) {
            wrong++;
            System.out.println(call + " answered " + got + ", due is " + want);
        }
    }

    static void same(String what, String got, String want) {
        if (!got.equals(want)) {
            wrong++;
            System.out.println(what + ": is\n  " + got + "\nand should be\n  " + want);
        }
    }

    static boolean anyWrong() {
        return wrong != 0;
    }

    static void finish() {
        System.out.println(wrong == 0 ? "all answers are as due" : wrong + " answers are not as due");
        if (wrong != 0) {
            System.exit(1);
        }
    }

    static void join(ChordRing ring, int... ids) {
        for (int id : ids) {
            due("join(" + id + ")", ring.join(id), ChordRing.OK);
        }
    }

    /** Stores every key with ten times itself plus one. */
    static void put(ChordRing ring, int... keys) {
        for (int key : keys) {
            due("put(" + key + ")", ring.put(key, 10 * key + 1), ChordRing.OK);
        }
    }

    static void holders(String when, ChordRing ring, int key, int... want) {
        for (int i = 0; i < 5; i++) {
            int node = i < want.length ? want[i] : ChordRing.NONE;
            due(when + ": holderAt(" + key + ", " + i + ")", ring.holderAt(key, i), node);
        }
    }

    static void keys(String when, ChordRing ring, int node, int... want) {
        due(when + ": keysAt(" + node + ")", ring.keysAt(node), want.length);
        for (int i = 0; i < want.length + 2; i++) {
            int key = i < want.length ? want[i] : ChordRing.NONE;
            due(when + ": keyAt(" + node + ", " + i + ")", ring.keyAt(node, i), key);
        }
    }

    static void counts(String when, ChordRing ring, int nodes, int keys, int pending) {
        due(when + ": nodeCount()", ring.nodeCount(), nodes);
        due(when + ": keyCount()", ring.keyCount(), keys);
        due(when + ": pendingCrashes()", ring.pendingCrashes(), pending);
    }

    /** All that the getters tell of the ring. */
    static String state(ChordRing ring) {
        StringBuilder text = new StringBuilder();
        text.append("nodes ").append(ring.nodeCount());
        text.append(" keys ").append(ring.keyCount());
        text.append(" pending ").append(ring.pendingCrashes());
        for (int id = 0; id < ChordRing.RING; id++) {
            text.append(nodeState(ring, id)).append(keyState(ring, id));
        }
        return text.toString();
    }

    private static String nodeState(ChordRing ring, int node) {
        StringBuilder text = new StringBuilder();
        if (ring.isLive(node)) {
            text.append(" live ").append(node);
        }
        int count = ring.keysAt(node);
        if (count != 0) {
            text.append(" node ").append(node).append(" has");
        }
        for (int i = 0; i < count; i++) {
            text.append(' ').append(ring.keyAt(node, i));
        }
        return text.toString();
    }

    private static String keyState(ChordRing ring, int key) {
        StringBuilder text = new StringBuilder();
        if (ring.valueOf(key) != 0) {
            text.append(" value of ").append(key).append(" is ").append(ring.valueOf(key));
        }
        for (int i = 0; i < 4; i++) {
            if (ring.holderAt(key, i) != ChordRing.NONE) {
                text.append(" key ").append(key).append(" at ").append(ring.holderAt(key, i));
            }
        }
        return text.toString();
    }
}
