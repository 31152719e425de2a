import java.util.List;
import java.util.function.Supplier;

/** Rings at the edges that the document names, each made anew at every call; R is 2 in all of them. */
final class Sample {
    private Sample() {
    }

    static ChordRing fresh() {
        return new ChordRing(8, 8, 2);
    }

    /** Four nodes and four keys; the holders of 5 are 10 20, of 15 are 20 30, of 35 are 40 10, of 250 are 10 20. */
    static ChordRing whole() {
        ChordRing ring = fresh();
        Due.join(ring, 10, 20, 30, 40);
        Due.put(ring, 5, 15, 35, 250);
        return ring;
    }

    /** As whole(), but node 20 has crashed: the holder of 5 is 10, of 15 is 30, of 250 is 10. */
    static ChordRing broken() {
        ChordRing ring = whole();
        Due.due("crash(20)", ring.crash(20), 0);
        return ring;
    }

    static ChordRing fullOfNodes() {
        ChordRing ring = fresh();
        Due.join(ring, 10, 20, 30, 40, 50, 60, 70, 80);
        Due.put(ring, 5, 75, 250);
        return ring;
    }

    /** Eight keys on three nodes, and one crash pending, so that four of the keys are short of a copy. */
    static ChordRing fullOfKeys() {
        ChordRing ring = fresh();
        Due.join(ring, 10, 20, 30, 40);
        Due.put(ring, 1, 2, 11, 12, 21, 22, 31, 32);
        Due.due("crash(20)", ring.crash(20), 0);
        return ring;
    }

    /** Two nodes and two keys were there; both nodes have crashed. */
    static ChordRing crashedOut() {
        ChordRing ring = fresh();
        Due.join(ring, 10, 20);
        Due.put(ring, 5, 15);
        Due.due("crash(10)", ring.crash(10), 0);
        Due.due("crash(20)", ring.crash(20), 2);
        return ring;
    }

    /** Two nodes and two keys were there; both nodes have left. */
    static ChordRing leftEmpty() {
        ChordRing ring = fresh();
        Due.join(ring, 10, 20);
        Due.put(ring, 5, 15);
        Due.due("leave(10)", ring.leave(10), ChordRing.OK);
        Due.due("leave(20)", ring.leave(20), ChordRing.OK);
        return ring;
    }

    static List<Supplier<ChordRing>> all() {
        return List.of(Sample::fresh, Sample::whole, Sample::broken, Sample::fullOfNodes,
            Sample::fullOfKeys, Sample::crashedOut, Sample::leftEmpty);
    }
}
