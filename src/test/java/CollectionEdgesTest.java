/** Part 4 of the Terms, and promises 18 and 19: minor and full collections. */
public final class CollectionEdgesTest {
    private static final Due due = new Due("CollectionEdgesTest");

    private static void emptyHeap() {
        due.sentence("A MINOR COLLECTION: how many THINGS are gone / A FULL COLLECTION (of an empty heap)");
        StickyHeap h = new StickyHeap();
        long before = h.digest();
        due.is("minor()", h.minor(), 0);
        due.is("full()", h.full(), 0);
        due.is("full()", h.full(), 0);
        due.is("digest()", h.digest(), before);
        due.is("count(8)", h.count(8), 0);
        due.is("count(9)", h.count(9), 1);
        due.is("count(10)", h.count(10), 2);
        due.is("count(11)", h.count(11), 0);
    }

    private static void allGo() {
        due.sentence("how many THINGS are gone (all of a full heap)");
        StickyHeap h = Told.still(8);
        for (int k = 0; k < 256; k++) h.make(1, 1);
        due.is("count(3)", h.count(3), 0);
        due.is("minor()", h.minor(), 256);
        due.is("count(3)", h.count(3), 8);
        due.is("count(8)", h.count(8), 256);
        h.root(0, h.make(1, 1));
        h.minor();
        h.root(0, Told.NONE);
        h.make(1, 1);
        due.is("minor(): the young one alone", h.minor(), 1);
        due.is("full(): the old one", h.full(), 1);
        due.is("count(8)", h.count(8), 258);
    }

    private static void byRoots() {
        due.sentence("FOUND are the YOUNG THINGS that ROOTS are");
        for (int full = 0; full < 2; full++) {
            StickyHeap h = new StickyHeap();
            for (int k = 0; k < 12; k++) h.make(0, 1);
            h.root(0, 2);
            h.root(9, 20);
            h.root(5, 20);
            due.is("all but two are gone", full == 1 ? h.full() : h.minor(), 10);
            due.is("ROOT 0", h.about(2, 2), 1);
            due.is("ROOT 9", h.about(20, 2), 1);
        }
    }

    private static void byTheStack() {
        due.sentence("FOUND are the YOUNG THINGS .. that ints of THE STACK POINT AT");
        for (int full = 0; full < 2; full++) {
            StickyHeap h = Told.heap(24);
            h.make(0, 192);
            h.make(0, 17);
            h.make(0, 17);
            h.make(0, 17);
            h.push(191);
            int[] outside = {-1, -64, Integer.MIN_VALUE, 1536, Integer.MAX_VALUE};
            for (int k = 0; k < 22; k++) h.push(outside[k % 5]);
            h.push(255);
            due.is("all but two are gone", full == 1 ? h.full() : h.minor(), 2);
            due.is("by the lowest int: the last word of the last block", h.about(0, 2), 1);
            due.is("by the 24th int: the last word of a cell", h.about(224, 2), 1);
            h.pop();
            due.is("an old one stays when minor", h.minor(), 0);
            due.is("not when full: nothing points at it", h.full(), 1);
            due.is("about(224, 0)", h.about(224, 0), Told.UNKNOWN);
        }
    }

    private static void byTheLog() {
        due.sentence("FOUND are .. that REFERENCES of OLD THINGS in THE LOG are");
        for (int way = 0; way < 2; way++) {
            StickyHeap h = Told.heap(8);
            h.way(way);
            h.root(0, h.make(3, 0));
            h.minor();
            for (int k = 0; k < 4; k++) h.make(1, 1);
            h.put(0, 0, 64);
            h.put(0, 2, 66);
            h.put(0, 1, 68);
            h.put(0, 1, Told.NONE);
            due.is("minor(): two are referred to no more, or never were", h.minor(), 2);
            due.is("by its first reference", h.about(64, 2), 1);
            due.is("by its last reference", h.about(66, 2), 1);
            due.is("about(68, 0)", h.about(68, 0), Told.UNKNOWN);
        }
    }

    private static void byThoseFound() {
        due.sentence("and that REFERENCES of those FOUND are");
        for (int down = 0; down < 2; down++) {
            StickyHeap h = Told.heap(24);
            int first = h.make(1, 1), last = first;
            for (int k = 1; k < 160; k++) {
                int next = h.make(1, 1);
                if (down == 1) h.put(next, 0, last);
                else h.put(last, 0, next);
                last = next;
            }
            h.make(1, 1);
            h.push(down == 1 ? last : first);
            due.is("minor(): a chain of 160 stays", h.minor(), 1);
            due.is("count(2)", h.count(2), 160);
            due.is("count(11)", h.count(11), 160);
        }
    }

    private static void ringsGo() {
        due.sentence("the other YOUNG ones are gone, their CELLS (BLOCKS) are not used");
        StickyHeap h = Told.heap(5);
        h.make(1, 0);
        h.make(1, 0);
        h.put(0, 0, 2);
        h.put(2, 0, 0);
        h.make(1, 255);
        h.put(64, 0, 64);
        due.is("a ring, and a large one that refers to itself", h.minor(), 3);
        for (int x : new int[] {0, 2, 64}) {
            due.is("about(" + x + ", 0)", h.about(x, 0), Told.UNKNOWN);
            due.is("points(" + x + ")", h.points(x), Told.NONE);
        }
        for (int b = 0; b < 5; b++) {
            due.is("block(" + b + ", 0)", h.block(b, 0), 0);
            due.is("block(" + b + ", 1)", h.block(b, 1), 0);
            due.is("block(" + b + ", 2)", h.block(b, 2), 0);
        }
        due.is("its last block can be used", h.make(0, 256), 0);
        due.is("and the one behind", h.make(0, 1), 256);
    }

    private static void fullWithoutTheLog() {
        due.sentence("A FULL one: all are YOUNG; then as a MINOR one without THE LOG");
        for (int way = 0; way < 2; way++) {
            StickyHeap h = Told.heap(8);
            h.way(way);
            h.root(0, h.make(2, 0));
            h.root(1, h.make(2, 0));
            h.minor();
            h.root(0, Told.NONE);
            h.put(0, 0, h.make(4, 0));
            h.put(2, 0, h.make(0, 4));
            int looked = h.count(11);
            due.is("full(): what no root holds, in the log or not", h.full(), 2);
            due.is("LOOKED AT: those found alone", h.count(11) - looked, 2);
            due.is("an old one, found again, is old", h.about(2, 2), 1);
            due.is("what it refers to", h.about(68, 2), 1);
            due.is("count(2)", h.count(2), 2);
        }
    }

    private static void logBehind() {
        due.sentence("Behind each: THE LOG is empty and not OVER, no BLOCK is DIRTY");
        for (int kind = 0; kind < 3; kind++) {
            StickyHeap h = Told.manyOld(14);
            for (int k = 0; k < 13; k++) h.put(64 + 2 * k, 0, 0);
            due.is("count(6) ahead", h.count(6), 1);
            if (kind == 0) h.minor();
            if (kind == 1) h.full();
            if (kind == 2) for (int k = 0; k < 7; k++) h.make(0, 64);
            due.is("collections", h.count(9) + h.count(10), 2);
            due.is("count(6) behind", h.count(6), 0);
            due.is("count(5) behind", h.count(5), 0);
            due.is("logged(0) behind", h.logged(0), Told.NONE);
            h.put(88, 0, 0);
            due.is("the log begins anew", h.logged(0), 88);
            h = Told.byBlocks(3);
            h.root(0, h.make(65, 0));
            h.put(0, 0, 0);
            h.put(0, 64, 0);
            due.is("block(0, 4) ahead", h.block(0, 4) + h.block(1, 4), 2);
            if (kind == 0) h.minor();
            if (kind == 1) h.full();
            if (kind == 2) for (int k = 0; k < 2; k++) h.make(0, 64);
            due.is("block(0, 4) behind", h.block(0, 4), 0);
            due.is("block(1, 4) behind", h.block(1, 4), 0);
            due.is("count(5) behind", h.count(5), 0);
        }
    }

    private static void blocksWithoutThings() {
        due.sentence("SMALL BLOCKS without THINGS are FREE");
        for (int c = 0; c < 5; c++) {
            int cell = 2 << c;
            StickyHeap h = Told.heap(2);
            for (int k = 0; k < 128 / cell; k++) h.make(0, cell);
            h.root(0, 64 - cell);
            h.minor();
            due.is("one thing is left, in the last cell", h.block(0, 0), 1);
            due.is("its class", h.block(0, 1), c);
            due.is("none is left", h.block(1, 0), 0);
            due.is("count(3)", h.count(3), 1);
            h.root(0, Told.NONE);
            h.minor();
            due.is("an old one is left", h.block(0, 0), 1);
            h.full();
            due.is("none is left", h.block(0, 0), 0);
            due.is("a free block is of any class", h.make(0, 64), 0);
        }
    }

    private static void barred() {
        due.sentence("BARRED are the BLOCKS that are FREE then and have a word that an int of THE STACK is");
        StickyHeap h = new StickyHeap();
        h.root(0, h.make(0, 1));
        h.make(0, 3);
        h.root(1, h.make(0, 65));
        int[] words = {40, 127, 128, 255, 256, 319, 447, 448, 512, -1, Integer.MIN_VALUE, Integer.MAX_VALUE};
        for (int w : words) h.push(w);
        due.is("not ahead of a collection", h.count(4), 0);
        h.full();
        int[] want = {0, 1, 0, 0, 1, 0, 1, 1};
        for (int b = 0; b < 8; b++) due.is("block(" + b + ", 5)", h.block(b, 5), want[b]);
        due.is("count(4): one that has two words once", h.count(4), 4);
        for (int k = 0; k < words.length; k++) h.pop();
        due.is("pop() lifts no bar", h.count(4), 4);
        h.push(330);
        due.is("push() sets none", h.block(5, 5), 0);
        h.minor();
        due.is("those of the last collection alone", h.count(4), 1);
        due.is("block(5, 5)", h.block(5, 5), 1);
    }

    private static void barredByWordsAlone() {
        due.sentence("BARRED are the BLOCKS that .. have a word that an int of THE STACK is (ints beside the heap)");
        for (int blocks : new int[] {1, 2, 24}) {
            StickyHeap h = Told.heap(blocks);
            for (int w : new int[] {-1, -63, -64, 64 * blocks, 64 * blocks + 63, 1536, Integer.MIN_VALUE, Integer.MAX_VALUE}) h.push(w);
            h.minor();
            due.is("count(4)", h.count(4), 0);
            h.push(0);
            h.push(64 * blocks - 1);
            h.full();
            for (int b = 0; b < blocks; b++) {
                due.is("block(" + b + ", 5)", h.block(b, 5), b == 0 || b == blocks - 1 ? 1 : 0);
            }
        }
    }

    private static void barredNoMore() {
        due.sentence("a BLOCK that is not FREE any more is not BARRED any more");
        StickyHeap h = Told.still(4);
        for (int b = 0; b < 4; b++) h.push(64 * b + 10);
        h.minor();
        due.is("count(4)", h.count(4), 4);
        due.is("a small one", h.make(0, 1), 0);
        due.is("block(0, 5)", h.block(0, 5), 0);
        due.is("count(4)", h.count(4), 3);
        due.is("a large one", h.make(0, 129), 64);
        for (int b = 1; b < 4; b++) due.is("block(" + b + ", 5)", h.block(b, 5), 0);
        due.is("count(4)", h.count(4), 0);
        h.minor();
        due.is("the small one is not pointed at: free again, barred again", h.block(0, 5), 1);
        due.is("the large one is", h.about(64, 2), 1);
        due.is("count(4)", h.count(4), 1);
    }

    private static void lookedAt() {
        due.sentence("LOOKED AT counts REFERENCES, whatever they are");
        StickyHeap h = new StickyHeap();
        h.root(0, h.make(5, 3));
        h.root(1, h.make(0, 8));
        h.put(0, 1, 0);
        h.put(0, 2, 0);
        h.put(0, 3, 8);
        h.make(7, 0);
        h.minor();
        due.is("NONE, itself, another: five; what goes is not looked at", h.count(11), 5);
        h.minor();
        due.is("nothing is young or written", h.count(11), 5);
        h.full();
        due.is("all that is found", h.count(11), 10);
        h = Told.heap(4);
        h.root(0, h.make(256, 0));
        h.minor();
        due.is("a thing of 256", h.count(11), 256);
        due.is("make() collects, in vain", h.make(0, 1), Told.FULL);
        due.is("collections of make() count, too", h.count(11), 512);
    }

    private static void onceACollection() {
        due.sentence("those of OLD THINGS in THE LOG (each once a collection; by WAY 1 all that they have) and of those FOUND");
        for (int way = 0; way < 2; way++) {
            StickyHeap h = Told.heap(8);
            h.way(way);
            h.root(0, h.make(130, 0));
            h.root(1, h.make(4, 0));
            h.minor();
            int looked = h.count(11);
            h.put(0, 0, 0);
            h.put(0, 129, 0);
            h.put(0, 0, h.make(2, 0));
            h.put(0, 1, h.make(2, 0));
            h.minor();
            due.is("the one written, all its references, once, and the two found", h.count(11) - looked, 134);
            h.put(0, 128, 0);
            looked = h.count(11);
            h.minor();
            due.is("a block of it alone: all its references", h.count(11) - looked, 130);
        }
    }

    private static void reachedByNothing() {
        due.sentence("REFERENCES of an OLD THING that is reached by nothing count, too");
        for (int way = 0; way < 2; way++) {
            StickyHeap h = Told.heap(8);
            h.way(way);
            h.root(0, h.make(1, 1));
            h.minor();
            h.put(0, 0, h.make(1, 2));
            h.root(0, Told.NONE);
            due.is("what it refers to stays", h.minor(), 0);
            due.is("about(64, 2)", h.about(64, 2), 1);
            due.is("full(): it would not have to", h.full(), 2);
        }
    }

    public static void main(String[] args) {
        emptyHeap();
        allGo();
        byRoots();
        byTheStack();
        byTheLog();
        byThoseFound();
        ringsGo();
        fullWithoutTheLog();
        logBehind();
        blocksWithoutThings();
        barred();
        barredByWordsAlone();
        barredNoMore();
        lookedAt();
        onceACollection();
        reachedByNothing();
        due.end();
    }
}
