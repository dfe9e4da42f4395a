/** Promises 13 to 17: root, rooted, push, pop, top. */
public final class HoldersTest {
    private static final Due due = new Due("HoldersTest");

    private static void roots() {
        StickyHeap h = new StickyHeap();
        h.make(0, 1);
        h.make(0, 1);
        due.is("root(0, 0)", h.root(0, 0), StickyHeap.NONE);
        due.is("root(0, 2)", h.root(0, 2), 0);
        due.is("root(9, 0)", h.root(9, 0), StickyHeap.NONE);
        due.is("rooted(0)", h.rooted(0), 2);
        due.is("rooted(9)", h.rooted(9), 0);
        due.is("rooted(5)", h.rooted(5), StickyHeap.NONE);
        for (int i : new int[] {-1, 10, Integer.MIN_VALUE, Integer.MAX_VALUE}) {
            due.is("root(" + i + ", 0)", h.root(i, 0), StickyHeap.UNKNOWN);
            due.is("root(" + i + ", NONE)", h.root(i, -1), StickyHeap.UNKNOWN);
            due.is("rooted(" + i + ")", h.rooted(i), StickyHeap.UNKNOWN);
        }
        for (int x : new int[] {1, 3, 4, 64, 512, -2, Integer.MIN_VALUE, Integer.MAX_VALUE}) {
            due.is("root(0, " + x + ")", h.root(0, x), StickyHeap.UNKNOWN);
        }
        due.is("a refused root() changes nothing", h.rooted(0), 2);
        due.is("root(0, NONE)", h.root(0, StickyHeap.NONE), 2);
        due.is("rooted(0)", h.rooted(0), StickyHeap.NONE);
        due.is("only the other one stays", h.minor(), 1);
        due.is("about(0, 2)", h.about(0, 2), 1);
    }

    private static void everyRootHolds() {
        StickyHeap h = new StickyHeap();
        for (int i = 0; i < 10; i++) h.root(i, h.make(0, 2));
        h.make(0, 2);
        due.is("full()", h.full(), 1);
        due.is("minor()", h.minor(), 0);
        due.is("count(2)", h.count(2), 10);
    }

    private static void stack() {
        StickyHeap h = new StickyHeap();
        due.is("pop() of none", h.pop(), StickyHeap.STATE);
        due.is("top(0) of none", h.top(0), 0);
        for (int k = 1; k <= 24; k++) due.is("push(" + 100 * k + ")", h.push(100 * k), k);
        due.is("push of a 25th", h.push(7), StickyHeap.FULL);
        due.is("seen()", h.seen(), 0);
        for (int k = 0; k < 24; k++) {
            due.is("top(" + k + ")", h.top(k), 1);
            due.is("seen()", h.seen(), 100 * (24 - k));
        }
        for (int k : new int[] {24, 25, -1, Integer.MIN_VALUE, Integer.MAX_VALUE}) {
            due.is("top(" + k + ")", h.top(k), 0);
            due.is("seen() stays", h.seen(), 100);
        }
        for (int k = 23; k >= 0; k--) {
            due.is("pop()", h.pop(), k);
            due.is("seen()", h.seen(), 100 * (k + 1));
        }
        due.is("pop() of none", h.pop(), StickyHeap.STATE);
        due.is("seen() stays", h.seen(), 100);
        due.is("push(least)", h.push(Integer.MIN_VALUE), 1);
        due.is("push(greatest)", h.push(Integer.MAX_VALUE), 2);
        due.is("a collection with such ints", h.full(), 0);
        due.is("top(1)", h.top(1), 1);
        due.is("seen()", h.seen(), Integer.MIN_VALUE);
    }

    private static void stackHolds() {
        StickyHeap h = new StickyHeap();
        h.make(0, 3);
        h.make(0, 3);
        h.make(0, 3);
        h.make(0, 200);
        h.push(7);
        h.push(319);
        due.is("what is pointed at stays", h.minor(), 2);
        due.is("the cell's last word, not used by it", h.about(4, 2), 1);
        due.is("the last block's last word, not used by it", h.about(64, 2), 1);
        h.pop();
        due.is("full() behind pop()", h.full(), 1);
        h.pop();
        due.is("full() behind pop()", h.full(), 1);
    }

    public static void main(String[] args) {
        roots();
        everyRootHolds();
        stack();
        stackHolds();
        due.end();
    }
}
