/** What tests of edges say again and again. */
final class Told {
    static final int NONE = -1, UNKNOWN = -101, OUTSIDE = -102, STATE = -103, FULL = -104, INDEX = -12;

    private Told() {
    }

    /** All that can be asked without a change, in fourteen calls: an object has but 512. */
    static String of(StickyHeap h) {
        StringBuilder text = new StringBuilder("digest " + h.digest() + " seen " + h.seen() + " counts");
        for (int what = 0; what < 12; what++) text.append(' ').append(h.count(what));
        return text.toString();
    }

    /** A new heap of so many blocks. */
    static StickyHeap heap(int blocks) {
        StickyHeap h = new StickyHeap();
        h.open(blocks);
        return h;
    }

    /** One that doesn't collect of itself. */
    static StickyHeap still(int blocks) {
        StickyHeap h = heap(blocks);
        h.auto(false);
        return h;
    }

    /** One that remembers by blocks. */
    static StickyHeap byBlocks(int blocks) {
        StickyHeap h = heap(blocks);
        h.way(1);
        return h;
    }

    /**
     * An old thing of 32 references at 0, rooted, and so many old things (32 at most) of one reference and one
     * number from 64 on, which it refers to.
     */
    static StickyHeap manyOld(int n) {
        StickyHeap h = new StickyHeap();
        h.root(0, h.make(32, 1));
        for (int k = 0; k < n; k++) h.put(0, k, h.make(1, 1));
        h.minor();
        return h;
    }
}
