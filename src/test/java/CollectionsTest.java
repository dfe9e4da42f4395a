/** Promises 18 to 20, and part 3 of the document: minor, full, logged, what is remembered. */
public final class CollectionsTest {
    private static final Due due = new Due("CollectionsTest");

    private static void minorLooksAtTheYoungAlone() {
        StickyHeap h = new StickyHeap();
        h.make(1, 0);
        h.make(1, 0);
        h.root(0, 0);
        h.put(0, 0, 2);
        due.is("minor()", h.minor(), 0);
        due.is("looked at both", h.count(11), 2);
        due.is("minor() again", h.minor(), 0);
        due.is("looked at none", h.count(11), 2);
        h.root(0, -1);
        due.is("old ones stay, reached or not", h.minor(), 0);
        due.is("count(2)", h.count(2), 2);
        due.is("full()", h.full(), 2);
        due.is("count(8)", h.count(8), 2);
        due.is("count(9)", h.count(9), 3);
        due.is("count(10)", h.count(10), 1);
        due.is("count(11)", h.count(11), 2);
    }

    private static void fullIgnoresTheLog() {
        StickyHeap h = new StickyHeap();
        h.make(3, 0);
        h.root(0, 0);
        h.minor();
        h.root(0, -1);
        h.make(1, 0);
        h.put(0, 0, 64);
        due.is("the log has it", h.count(5), 1);
        due.is("full() does not look at the log", h.full(), 2);
        due.is("count(11): only the first minor one's", h.count(11), 3);
        due.is("the log is empty", h.logged(0), StickyHeap.NONE);
    }

    private static void chainsAndRings() {
        StickyHeap h = new StickyHeap();
        h.open(24);
        int first = h.make(1, 1), last = first;
        for (int k = 0; k < 300; k++) {
            int next = h.make(1, 1);
            if (k % 2 == 0) {
                h.put(last, 0, next);
                last = next;
            }
        }
        h.put(last, 0, first);
        h.push(last + 1);
        due.is("full() of a long ring", h.full(), 150);
        due.is("count(2)", h.count(2), 151);
        due.is("count(11)", h.count(11), 151);
        h.pop();
        due.is("the ring is gone", h.full(), 151);
        due.is("count(3)", h.count(3), 24);
    }

    private static void log() {
        StickyHeap h = new StickyHeap();
        for (int k = 0; k < 3; k++) h.root(k, h.make(2, 0));
        h.put(0, 0, 0);
        due.is("young ones do not come to the log", h.logged(0), StickyHeap.NONE);
        h.minor();
        h.put(4, 0, -1);
        h.put(0, 0, 2);
        h.put(4, 1, 2);
        due.is("logged(0)", h.logged(0), 4);
        due.is("logged(1)", h.logged(1), 0);
        due.is("logged(2)", h.logged(2), StickyHeap.NONE);
        for (int k : new int[] {-1, 12, Integer.MIN_VALUE, Integer.MAX_VALUE}) {
            due.is("logged(" + k + ")", h.logged(k), StickyHeap.NONE);
        }
        due.is("put refused", h.put(2, 2, 0), -12);
        due.is("put refused", h.put(2, 0, 1), StickyHeap.UNKNOWN);
        due.is("count(5)", h.count(5), 2);
        int looked = h.count(11);
        h.minor();
        due.is("each of the log once, all its references", h.count(11) - looked, 4);
        due.is("count(5) behind", h.count(5), 0);
    }

    private static void logKeepsTheYoung() {
        StickyHeap h = new StickyHeap();
        h.root(0, h.make(1, 0));
        h.minor();
        h.make(1, 0);
        h.make(1, 0);
        h.make(1, 0);
        h.put(0, 0, 2);
        h.put(2, 0, 4);
        h.root(0, -1);
        due.is("minor()", h.minor(), 1);
        due.is("about(4, 2)", h.about(4, 2), 1);
        due.is("points(6)", h.points(6), StickyHeap.NONE);
        h.make(1, 0);
        h.put(0, 0, 6);
        h.put(0, 0, -1);
        due.is("what was put and taken back", h.minor(), 1);
    }

    private static StickyHeap manyOld(int n) {
        StickyHeap h = new StickyHeap();
        h.root(0, h.make(32, 1));
        for (int k = 0; k < n - 1; k++) h.put(0, k, h.make(1, 1));
        h.minor();
        return h;
    }

    private static void logOver() {
        StickyHeap h = manyOld(15);
        for (int k = 0; k < 12; k++) h.put(64 + 2 * k, 0, 0);
        due.is("count(5) of twelve", h.count(5), 12);
        due.is("count(6) of twelve", h.count(6), 0);
        h.put(64, 0, -1);
        due.is("one that is there already", h.count(6), 0);
        due.is("about(88, 3)", h.about(88, 3), 0);
        h.put(88, 0, -1);
        due.is("count(6) of thirteen", h.count(6), 1);
        due.is("count(5): all old ones", h.count(5), 15);
        due.is("about(0, 3)", h.about(0, 3), 1);
        int young = h.make(0, 2);
        due.is("a young one does not count", h.about(young, 3), 0);
        due.is("count(5)", h.count(5), 15);
        due.is("logged(11)", h.logged(11), 86);
        due.is("logged(12)", h.logged(12), StickyHeap.NONE);
        h.put(90, 0, young);
        int looked = h.count(11);
        due.is("minor() when it is over", h.minor(), 0);
        due.is("looked at all old ones", h.count(11) - looked, 32 + 14);
        due.is("count(6) behind", h.count(6), 0);
        due.is("count(5) behind", h.count(5), 0);
        h.put(64, 0, -1);
        due.is("the log begins anew", h.logged(0), 64);
    }

    private static void dirtyBlocks() {
        StickyHeap h = new StickyHeap();
        h.way(1);
        h.root(0, h.make(100, 60));
        h.root(1, h.make(0, 160));
        h.root(2, h.make(1, 0));
        h.root(3, h.make(0, 1));
        h.minor();
        due.is("block(0, 4)", h.block(0, 4), 0);
        h.put(0, 64, 384);
        due.is("block(0, 4)", h.block(0, 4), 0);
        due.is("block(1, 4)", h.block(1, 4), 1);
        due.is("block(2, 4)", h.block(2, 4), 0);
        due.is("about(0, 3)", h.about(0, 3), 1);
        due.is("about(384, 3)", h.about(384, 3), 0);
        due.is("logged(0) by blocks", h.logged(0), StickyHeap.NONE);
        due.is("count(5)", h.count(5), 1);
        int young = h.make(1, 0);
        due.is("put into a young one", h.put(young, 0, -1), 1);
        due.is("its block is dirty", h.block(young / 64, 4), 1);
        due.is("the old one beside it counts", h.about(384, 3), 1);
        due.is("the young one itself does not", h.about(young, 3), 0);
        due.is("one without references does not", h.about(386, 3), 0);
        due.is("count(5)", h.count(5), 2);
        due.is("count(6)", h.count(6), 0);
        int looked = h.count(11);
        due.is("minor()", h.minor(), 1);
        due.is("all references of those that count", h.count(11) - looked, 101);
        due.is("block(1, 4) behind", h.block(1, 4), 0);
        due.is("block(6, 4) behind", h.block(6, 4), 0);
    }

    /** A thing that is found and lies in a dirty block is looked at as found, not as of the log too. */
    private static void foundInADirtyBlock() {
        StickyHeap h = new StickyHeap();
        h.way(1);
        h.make(1, 1);
        h.make(1, 1);
        h.root(0, 0);
        h.put(0, 0, 2);
        due.is("minor()", h.minor(), 0);
        due.is("count(11)", h.count(11), 2);
    }

    private static void blocksBecomeFree() {
        StickyHeap h = new StickyHeap();
        h.make(0, 1);
        h.make(0, 200);
        h.make(0, 33);
        h.root(0, 320);
        due.is("minor()", h.minor(), 2);
        for (int b = 0; b < 8; b++) due.is("block(" + b + ", 0)", h.block(b, 0), b == 5 ? 2 : 0);
        due.is("block(1, 1)", h.block(1, 1), 0);
        due.is("count(3)", h.count(3), 7);
    }

    private static void barring() {
        StickyHeap h = new StickyHeap();
        h.make(0, 1);
        h.root(0, 0);
        h.make(0, 3);
        for (int w : new int[] {5, 100, 511, 512, -1, -64}) h.push(w);
        due.is("not ahead of a collection", h.count(4), 0);
        due.is("minor()", h.minor(), 1);
        due.is("one that is not free", h.block(0, 5), 0);
        due.is("one that became free", h.block(1, 5), 1);
        due.is("the last one", h.block(7, 5), 1);
        due.is("count(4)", h.count(4), 2);
        for (int k = 0; k < 6; k++) h.pop();
        due.is("pop() lifts no bar", h.count(4), 2);
        h.push(200);
        due.is("push() sets none", h.block(3, 5), 0);
        h.full();
        due.is("the next collection does", h.block(3, 5), 1);
        due.is("count(4)", h.count(4), 1);
    }

    private static void barringAtTheEnds() {
        for (int blocks : new int[] {1, 8, 24}) {
            StickyHeap h = new StickyHeap();
            h.open(blocks);
            h.push(-1);
            h.push(64 * blocks);
            h.minor();
            due.is("ints beside the heap, count(4)", h.count(4), 0);
            h.push(0);
            h.push(64 * blocks - 1);
            h.minor();
            due.is("block(0, 5)", h.block(0, 5), 1);
            due.is("block of the last word, 5", h.block(blocks - 1, 5), 1);
            due.is("count(4)", h.count(4), Math.min(2, blocks));
        }
    }

    public static void main(String[] args) {
        minorLooksAtTheYoungAlone();
        fullIgnoresTheLog();
        chainsAndRings();
        log();
        logKeepsTheYoung();
        logOver();
        dirtyBlocks();
        foundInADirtyBlock();
        blocksBecomeFree();
        barring();
        barringAtTheEnds();
        due.end();
    }
}
