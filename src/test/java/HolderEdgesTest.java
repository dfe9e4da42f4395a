/** Promises 13 to 17: root, rooted, push, pop, top; a test for each sentence that names an edge. */
public final class HolderEdgesTest {
    private static final Due due = new Due("HolderEdgesTest");
    private static final int[] NO_ROOTS = {-1, 10, 11, 24, Integer.MIN_VALUE, Integer.MAX_VALUE};

    private static void root() {
        due.sentence("A ROOT becomes a THING, or NONE: what it was");
        StickyHeap h = new StickyHeap();
        h.make(0, 1);
        h.make(0, 256);
        for (int i = 0; i < 10; i += 9) {
            due.is("root(" + i + ", 0)", h.root(i, 0), Told.NONE);
            due.is("root(" + i + ", 64)", h.root(i, 64), 0);
            due.is("root(" + i + ", 64) again", h.root(i, 64), 64);
            due.is("rooted(" + i + ")", h.rooted(i), 64);
            due.is("root(" + i + ", NONE)", h.root(i, Told.NONE), 64);
            due.is("root(" + i + ", NONE) again", h.root(i, Told.NONE), Told.NONE);
            due.is("rooted(" + i + ")", h.rooted(i), Told.NONE);
        }
        due.is("rooted(5)", h.rooted(5), Told.NONE);
    }

    private static void rootRefused() {
        due.sentence("root: UNKNOWN: i, x");
        StickyHeap h = new StickyHeap();
        h.make(0, 3);
        h.root(0, 0);
        h.root(9, 0);
        String before = Told.of(h);
        for (int i : NO_ROOTS) {
            due.is("root(" + i + ", 0)", h.root(i, 0), Told.UNKNOWN);
            due.is("root(" + i + ", NONE)", h.root(i, Told.NONE), Told.UNKNOWN);
            due.is("root(" + i + ", 1)", h.root(i, 1), Told.UNKNOWN);
        }
        for (int x : new int[] {1, 2, 3, 4, 64, 511, 512, 1536, -2, -12, Integer.MIN_VALUE, Integer.MAX_VALUE}) {
            due.is("root(0, " + x + ")", h.root(0, x), Told.UNKNOWN);
            due.is("root(9, " + x + ")", h.root(9, x), Told.UNKNOWN);
        }
        due.same("refused calls", Told.of(h), before);
    }

    private static void rooted() {
        due.sentence("What a ROOT is. UNKNOWN");
        StickyHeap h = new StickyHeap();
        h.root(0, h.make(0, 1));
        h.root(9, h.make(0, 1));
        due.is("rooted(0)", h.rooted(0), 0);
        due.is("rooted(9)", h.rooted(9), 2);
        due.is("rooted(1)", h.rooted(1), Told.NONE);
        for (int i : NO_ROOTS) due.is("rooted(" + i + ")", h.rooted(i), Told.UNKNOWN);
        h.full();
        due.is("rooted(9) behind a collection", h.rooted(9), 2);
        h.open(8);
        due.is("rooted(9) behind open()", h.rooted(9), Told.NONE);
    }

    private static StickyHeap stacked(int n) {
        StickyHeap h = new StickyHeap();
        for (int k = 0; k < n; k++) h.push(1000 + k);
        return h;
    }

    private static void push() {
        due.sentence("An int comes on top of THE STACK: how many there are. FULL");
        StickyHeap h = stacked(23);
        due.is("the 24th", h.push(Integer.MIN_VALUE), 24);
        String before = Told.of(h);
        due.is("a 25th", h.push(1), Told.FULL);
        due.is("a 25th again", h.push(Told.NONE), Told.FULL);
        due.same("refused calls", Told.of(h), before);
        h.top(0);
        due.is("the top one", h.seen(), Integer.MIN_VALUE);
        h.pop();
        due.is("the 24th anew", h.push(Integer.MAX_VALUE), 24);
        h.top(0);
        due.is("the top one", h.seen(), Integer.MAX_VALUE);
    }

    private static void pop() {
        due.sentence("The top one goes: SEEN becomes it; how many are left. STATE: there is none");
        StickyHeap h = stacked(24);
        for (int k = 23; k >= 0; k--) {
            due.is("pop()", h.pop(), k);
            due.is("seen()", h.seen(), 1000 + k);
        }
        String before = Told.of(h);
        due.is("pop() of none", h.pop(), Told.STATE);
        due.is("pop() of none again", h.pop(), Told.STATE);
        due.same("refused calls", Told.of(h), before);
        due.is("push()", h.push(-101), 1);
        due.is("pop()", h.pop(), 0);
        due.is("seen()", h.seen(), -101);
    }

    private static void top() {
        due.sentence("SEEN becomes the k-th one from the top (0: the top): 1; 0: there is none");
        for (int n : new int[] {0, 1, 2, 24}) {
            StickyHeap h = stacked(n);
            due.is("top(n) of " + n, h.top(n), 0);
            due.is("seen() stays", h.seen(), 0);
            for (int k = 0; k < n; k++) {
                due.is("top(" + k + ") of " + n, h.top(k), 1);
                due.is("seen()", h.seen(), 1000 + n - 1 - k);
            }
            int seen = h.seen();
            for (int k : new int[] {n, n + 1, 24, 25, -1, Integer.MIN_VALUE, Integer.MAX_VALUE}) {
                due.is("top(" + k + ") of " + n, h.top(k), 0);
                due.is("seen() stays", h.seen(), seen);
            }
            due.is("nothing went", h.pop(), n == 0 ? Told.STATE : n - 1);
        }
    }

    /** What was popped lies above the stack and must not be seen, nor hold, any more. */
    private static void whatWasPopped() {
        due.sentence("The top one goes");
        StickyHeap h = new StickyHeap();
        h.make(0, 1);
        h.push(0);
        h.push(70);
        h.pop();
        due.is("top(1)", h.top(1), 0);
        h.pop();
        due.is("top(0)", h.top(0), 0);
        due.is("it holds nothing", h.minor(), 1);
        due.is("it bars nothing", h.count(4), 0);
        due.is("digest()", h.digest(), new StickyHeap().digest());
    }

    public static void main(String[] args) {
        root();
        rootRefused();
        rooted();
        push();
        pop();
        top();
        whatWasPopped();
        due.end();
    }
}
