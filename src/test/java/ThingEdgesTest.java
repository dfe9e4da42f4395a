/** Promises 6 to 12: put, link, set, get, seen, about, points; a test for each sentence that names an edge. */
public final class ThingEdgesTest {
    private static final Due due = new Due("ThingEdgesTest");
    /** Of the heap that two() makes, those ints that are no address, though words of things are among them. */
    private static final int[] NO_ADDRESSES = {1, 2, 4, 65, 66, 68, 127, 128, 511, 512, 1535, 1536, -2, -64,
        Integer.MIN_VALUE, Integer.MAX_VALUE};

    /** A thing of two references and one number at 0, a large one of one reference and 63 numbers at 64. */
    private static StickyHeap two() {
        StickyHeap h = new StickyHeap();
        h.make(2, 1);
        h.make(1, 63);
        return h;
    }

    private static void put() {
        due.sentence("REFERENCE i of a THING becomes another one, or NONE: 1");
        StickyHeap h = two();
        due.is("the other one", h.put(0, 0, 64), 1);
        due.is("itself", h.put(0, 1, 0), 1);
        due.is("link(0, 0)", h.link(0, 0), 64);
        due.is("link(0, 1)", h.link(0, 1), 0);
        due.is("NONE", h.put(0, 0, Told.NONE), 1);
        due.is("link(0, 0)", h.link(0, 0), Told.NONE);
        due.is("link(0, 1) stays", h.link(0, 1), 0);
        due.is("NONE again", h.put(0, 0, Told.NONE), 1);
    }

    private static void putRefused() {
        due.sentence("put: UNKNOWN: x, y (but NONE); INDEX");
        StickyHeap h = two();
        h.put(0, 0, 64);
        String before = Told.of(h);
        for (int x : NO_ADDRESSES) {
            due.is("put(" + x + ", 0, 0)", h.put(x, 0, 0), Told.UNKNOWN);
            due.is("put(0, 0, " + x + ")", h.put(0, 0, x), Told.UNKNOWN);
            due.is("put(" + x + ", 9, NONE): UNKNOWN first", h.put(x, 9, Told.NONE), Told.UNKNOWN);
            due.is("put(0, 9, " + x + "): UNKNOWN first", h.put(0, 9, x), Told.UNKNOWN);
        }
        due.is("NONE is no x", h.put(Told.NONE, 0, 0), Told.UNKNOWN);
        for (int i : new int[] {-1, 2, 3, 4, Integer.MIN_VALUE, Integer.MAX_VALUE}) {
            due.is("put(0, " + i + ", 64)", h.put(0, i, 64), Told.INDEX);
            due.is("put(0, " + i + ", NONE)", h.put(0, i, Told.NONE), Told.INDEX);
        }
        due.same("refused calls", Told.of(h), before);
    }

    /** An address is one only as long as the thing is there. */
    private static void goneOnes() {
        due.sentence("UNKNOWN (no THING has this ADDRESS)");
        StickyHeap h = two();
        h.root(0, 64);
        h.full();
        due.is("put(0, 0, 64)", h.put(0, 0, 64), Told.UNKNOWN);
        due.is("put(64, 0, 0)", h.put(64, 0, 0), Told.UNKNOWN);
        due.is("link(0, 0)", h.link(0, 0), Told.UNKNOWN);
        due.is("set(0, 2, 1)", h.set(0, 2, 1), Told.UNKNOWN);
        due.is("get(0, 2)", h.get(0, 2), Told.UNKNOWN);
        due.is("about(0, 0)", h.about(0, 0), Told.UNKNOWN);
        due.is("root(1, 0)", h.root(1, 0), Told.UNKNOWN);
        h.open(1);
        due.is("about(64, 0), when the heap has it no more", h.about(64, 0), Told.UNKNOWN);
        due.is("root(1, 64)", h.root(1, 64), Told.UNKNOWN);
        h.open(8);
        due.is("about(64, 0), when the heap has it again", h.about(64, 0), Told.UNKNOWN);
    }

    private static void besideTheHeap() {
        due.sentence("UNKNOWN (no THING has this ADDRESS) (beside the heap)");
        for (int blocks : new int[] {1, 8, 24}) {
            StickyHeap h = Told.heap(blocks);
            for (int b = 0; b < blocks; b++) h.make(1, 63);
            due.is("the last one", h.about(64 * blocks - 64, 0), 1);
            for (int x : new int[] {64 * blocks, 64 * blocks + 64, 1536, -1, -2, -64}) {
                due.is("put(" + x + ", 0, 0)", h.put(x, 0, 0), Told.UNKNOWN);
                due.is("link(" + x + ", 0)", h.link(x, 0), Told.UNKNOWN);
                due.is("set(" + x + ", 1, 0)", h.set(x, 1, 0), Told.UNKNOWN);
                due.is("get(" + x + ", 1)", h.get(x, 1), Told.UNKNOWN);
                due.is("about(" + x + ", 0)", h.about(x, 0), Told.UNKNOWN);
                due.is("points(" + x + ")", h.points(x), Told.NONE);
                if (x != Told.NONE) due.is("put(0, 0, " + x + ")", h.put(0, 0, x), Told.UNKNOWN);
                if (x != Told.NONE) due.is("root(0, " + x + ")", h.root(0, x), Told.UNKNOWN);
            }
        }
    }

    private static void linkRefused() {
        due.sentence("REFERENCE i: its ADDRESS, or NONE. UNKNOWN; INDEX");
        StickyHeap h = two();
        due.is("link(0, 1)", h.link(0, 1), Told.NONE);
        h.put(0, 1, 64);
        due.is("link(0, 1)", h.link(0, 1), 64);
        String before = Told.of(h);
        for (int x : NO_ADDRESSES) {
            due.is("link(" + x + ", 0)", h.link(x, 0), Told.UNKNOWN);
            due.is("link(" + x + ", -1): UNKNOWN first", h.link(x, -1), Told.UNKNOWN);
        }
        due.is("link(NONE, 0)", h.link(Told.NONE, 0), Told.UNKNOWN);
        for (int i : new int[] {-1, 2, 3, Integer.MIN_VALUE, Integer.MAX_VALUE}) {
            due.is("link(0, " + i + ")", h.link(0, i), Told.INDEX);
        }
        due.is("link(64, 1): a number", h.link(64, 1), Told.INDEX);
        due.same("refused calls", Told.of(h), before);
    }

    private static void setRefused() {
        due.sentence("NUMBER i (from r on) of a THING becomes v: 1. UNKNOWN; INDEX");
        StickyHeap h = two();
        for (int v : new int[] {Integer.MIN_VALUE, Integer.MAX_VALUE, -1, 0, 5}) {
            due.is("set(0, 2, " + v + ")", h.set(0, 2, v), 1);
            h.get(0, 2);
            due.is("seen()", h.seen(), v);
            due.is("set(64, 63, " + v + ")", h.set(64, 63, v), 1);
            h.get(64, 63);
            due.is("seen()", h.seen(), v);
        }
        String before = Told.of(h);
        for (int x : NO_ADDRESSES) {
            due.is("set(" + x + ", 2, 1)", h.set(x, 2, 1), Told.UNKNOWN);
            due.is("set(" + x + ", 0, 1): UNKNOWN first", h.set(x, 0, 1), Told.UNKNOWN);
        }
        for (int i : new int[] {-1, 0, 1, 3, 4, Integer.MIN_VALUE, Integer.MAX_VALUE}) {
            due.is("set(0, " + i + ", 64)", h.set(0, i, 64), Told.INDEX);
        }
        due.is("set(64, 64, 1)", h.set(64, 64, 1), Told.INDEX);
        due.same("refused calls", Told.of(h), before);
    }

    private static void getRefused() {
        due.sentence("SEEN becomes NUMBER i (from r on): 1. UNKNOWN; INDEX");
        StickyHeap h = two();
        h.set(0, 2, 6);
        due.is("get(64, 1)", h.get(64, 1), 1);
        due.is("seen()", h.seen(), 0);
        due.is("get(0, 2)", h.get(0, 2), 1);
        due.is("seen()", h.seen(), 6);
        String before = Told.of(h);
        for (int x : NO_ADDRESSES) {
            due.is("get(" + x + ", 2)", h.get(x, 2), Told.UNKNOWN);
            due.is("get(" + x + ", 0): UNKNOWN first", h.get(x, 0), Told.UNKNOWN);
        }
        for (int i : new int[] {-1, 0, 1, 3, 4, Integer.MIN_VALUE, Integer.MAX_VALUE}) {
            due.is("get(0, " + i + ")", h.get(0, i), Told.INDEX);
        }
        due.same("refused calls", Told.of(h), before);
    }

    private static void seen() {
        due.sentence("SEEN; 0 at first");
        StickyHeap h = two();
        due.is("seen() at first", h.seen(), 0);
        h.set(0, 2, 9);
        h.push(8);
        due.is("set() and push() leave it", h.seen(), 0);
        h.get(0, 2);
        due.is("seen()", h.seen(), 9);
        h.set(0, 2, 10);
        h.full();
        h.make(0, 1);
        due.is("it stays as it was seen, though the number goes", h.seen(), 9);
        h.top(0);
        due.is("top()", h.seen(), 8);
        h.get(0, 2);
        h.pop();
        due.is("pop()", h.seen(), 8);
        h.pop();
        due.is("a pop() that is refused leaves it", h.seen(), 8);
        h.top(0);
        due.is("a top() of none leaves it", h.seen(), 8);
    }

    private static void about() {
        due.sentence("what = 0 r, 1 n, 2 whether it is OLD (1, 0), 3 whether it is in THE LOG, or counts so, 4 how many words"
            + " its CELL, its BLOCKS have, 5 its CLASS (5: LARGE). UNKNOWN; OUTSIDE");
        int[][] rows = {{1, 0, 2, 0}, {0, 2, 2, 0}, {3, 0, 4, 1}, {0, 5, 8, 2}, {9, 0, 16, 3}, {0, 17, 32, 4}, {16, 16, 32, 4},
            {0, 33, 64, 5}, {64, 0, 64, 5}, {1, 64, 128, 5}, {256, 0, 256, 5}};
        for (int[] row : rows) {
            StickyHeap h = new StickyHeap();
            h.root(0, h.make(row[0], row[1]));
            String of = " of (" + row[0] + ", " + row[1] + ")";
            int[] want = {row[0], row[1], 0, 0, row[2], row[3]};
            for (int what = 0; what < 6; what++) due.is("about(0, " + what + ")" + of, h.about(0, what), want[what]);
            h.minor();
            due.is("about(0, 2) when old" + of, h.about(0, 2), 1);
            due.is("about(0, 3) when old" + of, h.about(0, 3), 0);
            h.put(0, 0, 0);
            due.is("about(0, 3) when written" + of, h.about(0, 3), row[0] > 0 ? 1 : 0);
        }
        StickyHeap h = two();
        for (int what : new int[] {-1, 6, Integer.MIN_VALUE, Integer.MAX_VALUE}) {
            due.is("about(0, " + what + ")", h.about(0, what), Told.OUTSIDE);
            due.is("about(NONE, " + what + "): UNKNOWN first", h.about(Told.NONE, what), Told.UNKNOWN);
        }
        for (int x : NO_ADDRESSES) {
            due.is("about(" + x + ", 0)", h.about(x, 0), Told.UNKNOWN);
            due.is("about(" + x + ", 6): UNKNOWN first", h.about(x, 6), Told.UNKNOWN);
        }
    }

    private static void points() {
        due.sentence("The ADDRESS of the THING that an int POINTS AT; NONE");
        StickyHeap h = two();
        h.make(0, 17);
        for (int w : new int[] {0, 1, 3}) due.is("points(" + w + ")", h.points(w), 0);
        for (int w : new int[] {64, 65, 127}) due.is("points(" + w + ")", h.points(w), 64);
        for (int w : new int[] {128, 145, 159}) due.is("points(" + w + ")", h.points(w), 128);
        for (int w : new int[] {4, 63, 160, 191, 192, 511, 512, 1535, 1536, -1, -64, -128, Integer.MIN_VALUE, Integer.MAX_VALUE}) {
            due.is("points(" + w + ")", h.points(w), Told.NONE);
        }
        h.root(0, 0);
        h.minor();
        for (int w : new int[] {64, 127, 128, 159}) due.is("points(" + w + ") when it is gone", h.points(w), Told.NONE);
        due.is("points(3)", h.points(3), 0);
    }

    public static void main(String[] args) {
        put();
        putRefused();
        goneOnes();
        besideTheHeap();
        linkRefused();
        setRefused();
        getRefused();
        seen();
        about();
        points();
        due.end();
    }
}
