import java.util.function.Supplier;
import java.util.function.ToIntFunction;

/** Counts and prints the answers that are not the ones due; shared by the tests. */
final class Due {
    /** Arguments out of range: next to the edges, far away, and in range only after a wrap or a mask. */
    static final int[] OUT_OF_RANGE = {
        -1, -2, -246, -255, -256, -257, 256, 257, 266, 511, 512, 1000, 65536, 65546,
        Integer.MIN_VALUE, Integer.MIN_VALUE + 10, Integer.MAX_VALUE, Integer.MAX_VALUE - 245
    };

    private static int wrong = 0;
    private static String sentence = "";

    private Due() {
    }

    /** The sentence of the document that the checks from here on hold to; told beside a wrong answer. */
    static void sentence(String words) {
        sentence = words;
    }

    static void due(String call, long got, long want) {
        if (got != want) {
            tell(call + " answered " + got + ", due is " + want);
        }
    }

    static void due(String call, boolean got, boolean want) {
        if (got != want) {
            tell(call + " answered " + got + ", due is " + want);
        }
    }

    static void same(String what, String got, String want) {
        if (!got.equals(want)) {
            tell(what + ": is\n  " + got + "\nand should be\n  " + want);
        }
    }

    private static void tell(String fault) {
        wrong++;
        System.out.println((sentence.isEmpty() ? "" : "'" + sentence + "' ") + fault);
    }

    static boolean anyWrong() {
        return wrong != 0;
    }

    static void finish() {
        System.out.println(wrong == 0 ? "all answers are as due" : wrong + " answers are not as due");
        if (wrong != 0) {
            System.exit(1);
        }
    }

    static void join(ChordRing ring, int... ids) {
        for (int id : ids) {
            due("join(" + id + ")", ring.join(id), ChordRing.OK);
        }
    }

    static int valueFor(int key) {
        return 10 * key + 1;
    }

    static void put(ChordRing ring, int... keys) {
        for (int key : keys) {
            due("put(" + key + ")", ring.put(key, valueFor(key)), ChordRing.OK);
        }
    }

    static void values(String when, ChordRing ring, int... keys) {
        for (int key : keys) {
            due(when + ": valueOf(" + key + ")", ring.valueOf(key), valueFor(key));
        }
    }

    static void holders(String when, ChordRing ring, int key, int... want) {
        for (int i = 0; i < 5; i++) {
            int node = i < want.length ? want[i] : ChordRing.NONE;
            due(when + ": holderAt(" + key + ", " + i + ")", ring.holderAt(key, i), node);
        }
    }

    static void keys(String when, ChordRing ring, int node, int... want) {
        due(when + ": keysAt(" + node + ")", ring.keysAt(node), want.length);
        for (int i = 0; i < want.length + 2; i++) {
            int key = i < want.length ? want[i] : ChordRing.NONE;
            due(when + ": keyAt(" + node + ", " + i + ")", ring.keyAt(node, i), key);
        }
    }

    /** That the nodes given are live, and no other. */
    static void live(String when, ChordRing ring, int... want) {
        for (int id = 0; id < ChordRing.RING; id++) {
            boolean wanted = false;
            for (int node : want) {
                wanted = wanted || node == id;
            }
            due(when + ": isLive(" + id + ")", ring.isLive(id), wanted);
        }
        due(when + ": nodeCount()", ring.nodeCount(), want.length);
    }

    static void counts(String when, ChordRing ring, int nodes, int keys, int pending) {
        due(when + ": nodeCount()", ring.nodeCount(), nodes);
        due(when + ": keyCount()", ring.keyCount(), keys);
        due(when + ": pendingCrashes()", ring.pendingCrashes(), pending);
    }

    /** That the call gives this negative status and leaves the ring as a twin that never had it. */
    static void refused(String what, Supplier<ChordRing> make, ToIntFunction<ChordRing> call, int want) {
        ChordRing ring = make.get();
        due(what, call.applyAsInt(ring), want);
        unchanged(what, ring, make.get());
    }

    /** That two rings answer alike, now and in calls to come; the calls to come use both up. */
    static void unchanged(String what, ChordRing ring, ChordRing twin) {
        same("the state after " + what, state(ring), state(twin));
        same("what follows " + what, future(ring), future(twin));
    }

    /** All that the getters tell of the ring. */
    static String state(ChordRing ring) {
        StringBuilder text = new StringBuilder();
        text.append("nodes ").append(ring.nodeCount());
        text.append(" keys ").append(ring.keyCount());
        text.append(" pending ").append(ring.pendingCrashes());
        for (int id = 0; id < ChordRing.RING; id++) {
            text.append(nodeState(ring, id)).append(keyState(ring, id));
        }
        return text.toString();
    }

    private static String nodeState(ChordRing ring, int node) {
        StringBuilder text = new StringBuilder();
        if (ring.isLive(node)) {
            text.append(" live ").append(node);
        }
        int count = ring.keysAt(node);
        if (count != 0) {
            text.append(" node ").append(node).append(" has");
        }
        for (int i = 0; i < count; i++) {
            text.append(' ').append(ring.keyAt(node, i));
        }
        return text.toString();
    }

    private static String keyState(ChordRing ring, int key) {
        StringBuilder text = new StringBuilder();
        if (ring.valueOf(key) != 0) {
            text.append(" value of ").append(key).append(" is ").append(ring.valueOf(key));
        }
        for (int i = 0; i < 4; i++) {
            if (ring.holderAt(key, i) != ChordRing.NONE) {
                text.append(" key ").append(key).append(" at ").append(ring.holderAt(key, i));
            }
        }
        for (int node = 0; node < ChordRing.RING; node++) {
            if (ring.holds(node, key)) {
                text.append(" held by ").append(node);
            }
        }
        return text.toString();
    }

    /** What the ring answers when it is crashed, mended, filled up and run down. */
    private static String future(ChordRing ring) {
        StringBuilder text = new StringBuilder();
        int crashes = 0;
        for (int id = 0; id < ChordRing.RING && crashes < 2; id++) {
            if (ring.isLive(id)) {
                text.append(" crash ").append(ring.crash(id));
                crashes++;
            }
        }
        text.append(" stabilise ").append(ring.stabilise()).append(' ').append(state(ring));
        for (int id = 0; id < ChordRing.RING; id += 5) {
            text.append(" join ").append(ring.join(id)).append(" put ").append(ring.put(id, id));
        }
        text.append(' ').append(state(ring));
        for (int id = 0; id < ChordRing.RING; id++) {
            text.append(" remove ").append(id % 3 == 0 ? ring.remove(id) : 0);
            text.append(" crash ").append(ring.crash(id));
        }
        return text.append(' ').append(state(ring)).toString();
    }
}
