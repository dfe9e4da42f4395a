/** Part 3 of the Terms, and promise 20: what is remembered, by things and by blocks. */
public final class MemoryEdgesTest {
    private static final Due due = new Due("MemoryEdgesTest");

    private static void oldOnesCome() {
        due.sentence("WAY 0 (at first): put() into an OLD THING: it comes to THE LOG, if it is not there");
        StickyHeap h = Told.manyOld(3);
        int young = h.make(1, 1);
        h.put(young, 0, 0);
        due.is("a young one does not come", h.logged(0), Told.NONE);
        h.put(68, 0, Told.NONE);
        due.is("one comes, though NONE was NONE", h.logged(0), 68);
        h.put(64, 0, young);
        h.put(68, 0, 64);
        h.put(64, 0, 64);
        due.is("the second", h.logged(1), 64);
        due.is("none twice", h.logged(2), Told.NONE);
        due.is("count(5)", h.count(5), 2);
        due.is("no block is dirty by WAY 0", h.block(1, 4) + h.block(0, 4), 0);
        h.put(66, 1, 0);
        h.put(66, 0, 1);
        h.set(66, 1, 5);
        h.get(66, 1);
        h.link(66, 0);
        h.root(4, 66);
        due.is("nothing but a put() that is done brings one", h.count(5), 2);
    }

    private static void twelve() {
        due.sentence("THE LOG has 12 THINGS; if there were more, it is OVER");
        StickyHeap h = Told.manyOld(14);
        for (int k = 0; k < 12; k++) {
            due.is("count(5) of " + k, h.count(5), k);
            h.put(64 + 2 * k, 0, Told.NONE);
            due.is("count(6) of " + (k + 1), h.count(6), 0);
        }
        due.is("the twelfth", h.logged(11), 86);
        for (int k = 0; k < 12; k++) h.put(64 + 2 * k, 0, 0);
        due.is("count(6) when those are written again", h.count(6), 0);
        due.is("count(5)", h.count(5), 12);
        h.put(h.make(1, 1), 0, 0);
        due.is("count(6) when a young one is written", h.count(6), 0);
        h.put(88, 1, 0);
        due.is("count(6) when a thirteenth is refused", h.count(6), 0);
        h.put(88, 0, 0);
        due.is("count(6) of a thirteenth", h.count(6), 1);
    }

    private static StickyHeap over() {
        StickyHeap h = Told.manyOld(14);
        for (int k = 0; k < 13; k++) h.put(64 + 2 * k, 0, Told.NONE);
        return h;
    }

    private static void nothingComes() {
        due.sentence("it is OVER (nothing comes any more)");
        StickyHeap h = over();
        long before = h.digest();
        h.put(90, 0, Told.NONE);
        h.put(64, 0, Told.NONE);
        due.is("digest() behind puts that change nothing else", h.digest(), before);
        for (int k = 0; k < 12; k++) due.is("logged(" + k + ")", h.logged(k), 64 + 2 * k);
        due.is("logged(12)", h.logged(12), Told.NONE);
        due.is("logged(13)", h.logged(13), Told.NONE);
    }

    private static void allOldOnesCount() {
        due.sentence("then all OLD THINGS count as in it");
        StickyHeap h = over();
        int young = h.make(1, 1);
        due.is("count(5)", h.count(5), 15);
        due.is("one that was never written", h.about(90, 3), 1);
        due.is("the one that was too many", h.about(88, 3), 1);
        due.is("a young one", h.about(young, 3), 0);
        h.put(90, 0, young);
        h.put(young, 0, h.make(1, 1));
        h.make(1, 1);
        int looked = h.count(11);
        due.is("minor(): what they refer to is found", h.minor(), 1);
        due.is("LOOKED AT: all old ones, each once, and the two found", h.count(11) - looked, 32 + 14 + 2);
        due.is("about(young, 2)", h.about(young, 2), 1);
    }

    private static void dirtyByTheWord() {
        due.sentence("WAY 1: put() into any THING: the BLOCK that the word of this REFERENCE lies in becomes DIRTY");
        int[] last = {0, 63, 64, 127, 128, 191, 192, 255};
        for (int i : last) {
            StickyHeap h = Told.byBlocks(6);
            h.make(0, 1);
            h.make(256, 0);
            due.is("put(64, " + i + ", 0)", h.put(64, i, 0), 1);
            for (int b = 0; b < 6; b++) due.is("block(" + b + ", 4)", h.block(b, 4), b == 1 + i / 64 ? 1 : 0);
            due.is("logged(0)", h.logged(0), Told.NONE);
        }
        StickyHeap h = Told.byBlocks(2);
        h.make(0, 32);
        h.make(32, 0);
        h.put(32, 31, Told.NONE);
        due.is("the last word of a small block", h.block(0, 4), 1);
        due.is("not the next block", h.block(1, 4), 0);
        h.full();
        h.make(1, 1);
        h.put(0, 1, 0);
        h.put(0, 0, 1);
        h.set(0, 1, 3);
        h.root(0, 0);
        due.is("nothing but a put() that is done", h.block(0, 4), 0);
        h.minor();
        h.put(0, 0, 0);
        due.is("an old one, too", h.block(0, 4), 1);
    }

    private static void oldOnesInDirtyBlocks() {
        due.sentence("the OLD THINGS that have a REFERENCE in a DIRTY BLOCK count as in THE LOG");
        StickyHeap h = Told.byBlocks(8);
        for (int k = 0; k < 3; k++) h.root(k, h.make(k == 1 ? 0 : 1, 1));
        h.root(3, h.make(64, 64));
        h.root(4, h.make(65, 63));
        h.minor();
        int young = h.make(1, 1);
        due.is("count(5) when none is dirty", h.count(5), 0);
        h.put(young, 0, Told.NONE);
        due.is("an old one beside what was written", h.about(0, 3), 1);
        due.is("one without references", h.about(2, 3), 0);
        due.is("another old one", h.about(4, 3), 1);
        due.is("the young one that was written", h.about(young, 3), 0);
        due.is("one in another block", h.about(64, 3), 0);
        due.is("count(5)", h.count(5), 2);
        h.put(64, 63, Told.NONE);
        due.is("by the last word of its first block", h.about(64, 3), 1);
        h.put(192, 64, Told.NONE);
        due.is("by the first word of its second block alone", h.about(192, 3), 1);
        due.is("block(3, 4)", h.block(3, 4), 0);
        due.is("count(5)", h.count(5), 4);
        due.is("count(6)", h.count(6), 0);
        h.put(192, 0, Told.NONE);
        due.is("by two blocks it counts once", h.count(5), 4);
    }

    private static void manyDirty() {
        due.sentence("the OLD THINGS that have a REFERENCE in a DIRTY BLOCK count as in THE LOG (more than 12, too)");
        StickyHeap h = Told.byBlocks(2);
        h.root(0, h.make(32, 0));
        for (int k = 0; k < 32; k++) h.put(0, k, h.make(1, 1));
        h.minor();
        for (int k = 0; k < 32; k++) h.put(64 + 2 * k, 0, 0);
        due.is("count(5)", h.count(5), 32);
        due.is("count(6)", h.count(6), 0);
        due.is("logged(0)", h.logged(0), Told.NONE);
    }

    private static void logged() {
        due.sentence("The k-th THING of THE LOG (from 0, as they came); NONE (by WAY 1, too)");
        StickyHeap h = Told.manyOld(14);
        due.is("logged(0) of none", h.logged(0), Told.NONE);
        for (int k = 13; k >= 2; k--) h.put(64 + 2 * k, 0, 0);
        for (int k = 0; k < 12; k++) due.is("logged(" + k + ")", h.logged(k), 64 + 2 * (13 - k));
        for (int k : new int[] {-1, 12, 13, Integer.MIN_VALUE, Integer.MAX_VALUE}) {
            due.is("logged(" + k + ")", h.logged(k), Told.NONE);
        }
        h.minor();
        due.is("logged(0) behind a collection", h.logged(0), Told.NONE);
        h.open(8);
        h.way(1);
        h.root(0, h.make(1, 0));
        h.minor();
        h.put(0, 0, 0);
        due.is("about(0, 3) by WAY 1", h.about(0, 3), 1);
        due.is("logged(0) by WAY 1", h.logged(0), Told.NONE);
    }

    public static void main(String[] args) {
        oldOnesCome();
        twelve();
        nothingComes();
        allOldOnesCount();
        dirtyByTheWord();
        oldOnesInDirtyBlocks();
        manyDirty();
        logged();
        due.end();
    }
}
