/** Promises 1 to 4: a new object, open, way, auto; a test for each sentence that names an edge. */
public final class HouseEdgesTest {
    private static final Due due = new Due("HouseEdgesTest");

    private static void newObject() {
        due.sentence("8 FREE BLOCKS; ROOTS NONE; AUTO; WAY 0");
        StickyHeap h = new StickyHeap();
        for (int b = 0; b < 8; b++) {
            for (int what = 0; what < 6; what++) due.is("block(" + b + ", " + what + ")", h.block(b, what), 0);
        }
        due.is("block(8, 0)", h.block(8, 0), Told.UNKNOWN);
        for (int i = 0; i < 10; i++) due.is("rooted(" + i + ")", h.rooted(i), Told.NONE);
        int[] counts = {8, 0, 0, 8, 0, 0, 0, 0, 0, 0, 0, 0};
        for (int what = 0; what < 12; what++) due.is("count(" + what + ")", h.count(what), counts[what]);
        due.is("the WAY", h.way(0), 0);
        due.is("AUTO", h.auto(true), 1);
    }

    private static void blocks() {
        due.sentence("All begins anew, as at first, with b BLOCKS (1 to 24)");
        for (int b : new int[] {1, 2, 8, 23, 24}) {
            StickyHeap h = new StickyHeap();
            h.auto(false);
            due.is("open(" + b + ")", h.open(b), 0);
            due.is("count(0)", h.count(0), b);
            due.is("count(3)", h.count(3), b);
            due.is("block(b - 1, 0)", h.block(b - 1, 0), 0);
            due.is("block(b, 0)", h.block(b, 0), Told.UNKNOWN);
            for (int k = 0; k < b; k++) due.is("make(0, 33)", h.make(0, 33), 64 * k);
            due.is("make(0, 33)", h.make(0, 33), Told.FULL);
            due.is("open(" + b + ") again", h.open(b), b);
            for (int k = 0; k < b; k++) {
                for (int what = 0; what < 3; what++) due.is("block(" + k + ", " + what + ")", h.block(k, what), 0);
            }
            for (int what = 0; what < 7; what++) {
                due.is("count(" + what + ")", h.count(what), what == 0 || what == 3 ? b : 0);
            }
        }
    }

    private static void anew() {
        due.sentence("All begins anew, as at first");
        for (int way = 0; way < 2; way++) {
            StickyHeap h = Told.manyOld(14);
            if (way == 1) {
                h.open(8);
                h.way(1);
                h.root(0, h.make(65, 1));
                h.minor();
            }
            h.push(500);
            h.minor();
            for (int k = 0; k < 13; k++) h.put(way == 0 ? 64 + 2 * k : 0, 0, 0);
            h.root(9, 0);
            h.top(0);
            due.is("something counts as logged", h.count(5), way == 0 ? 15 : 1);
            due.is("something is barred", h.count(4), 1);
            h.open(8);
            due.is("digest() is that of a new object", h.digest(), new StickyHeap().digest());
            due.is("seen()", h.seen(), 0);
            due.is("pop()", h.pop(), Told.STATE);
            due.is("logged(0)", h.logged(0), Told.NONE);
            due.is("points(0)", h.points(0), Told.NONE);
            for (int what = 1; what < 7; what++) due.is("count(" + what + ")", h.count(what), what == 3 ? 8 : 0);
        }
    }

    /** SEEN is not among what stays, by whichever call it came. */
    private static void seenAnew() {
        due.sentence("All begins anew, as at first / SEEN; 0 at first");
        for (int by = 0; by < 3; by++) {
            StickyHeap h = new StickyHeap();
            h.make(0, 1);
            h.set(0, 0, -7);
            h.push(-7);
            if (by == 0) h.get(0, 0);
            if (by == 1) h.pop();
            if (by == 2) h.top(0);
            due.is("seen()", h.seen(), -7);
            due.is("open(0)", h.open(0), Told.OUTSIDE);
            due.is("open(25)", h.open(25), Told.OUTSIDE);
            due.is("seen() behind a refused open()", h.seen(), -7);
            due.is("open(8)", h.open(8), 1);
            due.is("seen() behind open()", h.seen(), 0);
        }
    }

    /** A heap grows again over what a smaller one did not have. */
    private static void growsAgain() {
        due.sentence("All begins anew .. with b BLOCKS (fewer, then more)");
        StickyHeap h = Told.heap(24);
        h.way(1);
        for (int k = 0; k < 6; k++) h.put(h.make(255, 1), 254, Told.NONE);
        h.push(1535);
        h.full();
        h.put(h.make(1, 1), 0, Told.NONE);
        due.is("open(1)", h.open(1), 2);
        due.is("open(24)", h.open(24), 0);
        due.is("digest() is that of a new one of 24", h.digest(), Told.heap(24).digest());
        due.is("points(1535)", h.points(1535), Told.NONE);
        for (int what = 1; what < 7; what++) due.is("count(" + what + ")", h.count(what), what == 3 ? 24 : 0);
    }

    private static void howMany() {
        due.sentence("how many THINGS there were");
        StickyHeap h = new StickyHeap();
        due.is("none", h.open(24), 0);
        for (int k = 0; k < 300; k++) h.make(0, 1);
        due.is("three hundred", h.open(24), 300);
        h.root(0, h.make(0, 256));
        h.minor();
        h.make(0, 1);
        due.is("a large old one, a small young one", h.open(1), 2);
        due.is("none", h.open(1), 0);
    }

    private static void everStays() {
        due.sentence("(What count() tells ever stays, so do AUTO and the WAY.)");
        for (int way = 0; way < 2; way++) {
            for (int auto = 0; auto < 2; auto++) {
                StickyHeap h = new StickyHeap();
                h.way(way);
                h.auto(auto == 1);
                h.root(0, h.make(3, 1));
                h.make(1, 1);
                h.minor();
                h.full();
                h.full();
                h.open(2);
                int[] ever = {2, 1, 1, 2, 9};
                for (int k = 0; k < 5; k++) due.is("count(" + (7 + k) + ")", h.count(7 + k), ever[k]);
                h.make(1, 1);
                h.open(24);
                due.is("what open() took is not gone by a collection", h.count(8), 1);
                due.is("count(7)", h.count(7), 3);
                due.is("the WAY", h.way(way), way);
                due.is("AUTO", h.auto(true), auto);
            }
        }
    }

    private static void openOutside() {
        due.sentence("open: OUTSIDE");
        StickyHeap h = Told.manyOld(3);
        h.put(64, 0, 0);
        h.push(77);
        h.top(0);
        String before = Told.of(h);
        for (int b : new int[] {0, -1, 25, 64, Integer.MIN_VALUE, Integer.MAX_VALUE}) {
            due.is("open(" + b + ")", h.open(b), Told.OUTSIDE);
        }
        due.same("a refused open()", Told.of(h), before);
    }

    private static void ways() {
        due.sentence("The WAY becomes w (0, 1): what it was");
        StickyHeap h = new StickyHeap();
        int[] row = {0, 1, 1, 0, 0, 1};
        int was = 0;
        for (int w : row) {
            due.is("way(" + w + ")", h.way(w), was);
            was = w;
        }
        h.put(h.make(1, 1), 0, 0);
        due.is("by blocks", h.block(0, 4), 1);
        h.full();
        due.is("way(0)", h.way(0), 1);
        h.put(h.make(1, 1), 0, 0);
        due.is("by things", h.block(0, 4), 0);
        h.root(0, 0);
        h.minor();
        h.put(0, 0, 0);
        due.is("by things", h.logged(0), 0);
    }

    private static void wayOutside() {
        due.sentence("way: OUTSIDE; STATE: there are THINGS");
        StickyHeap h = new StickyHeap();
        for (int w : new int[] {-1, 2, Integer.MIN_VALUE, Integer.MAX_VALUE}) {
            due.is("way(" + w + ")", h.way(w), Told.OUTSIDE);
        }
        h.make(0, 1);
        due.is("way(1) with a thing", h.way(1), Told.STATE);
        due.is("way(0) with a thing", h.way(0), Told.STATE);
        due.is("way(2) with a thing: OUTSIDE comes first", h.way(2), Told.OUTSIDE);
        due.is("way(-1) with a thing: OUTSIDE comes first", h.way(-1), Told.OUTSIDE);
        h.root(0, 0);
        h.full();
        due.is("way(1) with an old thing", h.way(1), Told.STATE);
        h.root(0, Told.NONE);
        due.is("way(1) with a thing that nothing holds", h.way(1), Told.STATE);
        h.full();
        due.is("way(1) when none is left: it was 0 all the time", h.way(1), 0);
        h.make(0, 1);
        h.open(8);
        due.is("way(0) behind open()", h.way(0), 1);
    }

    private static void wayAlready() {
        due.sentence("STATE: there are THINGS (w is the WAY already)");
        for (int w = 0; w < 2; w++) {
            StickyHeap h = new StickyHeap();
            h.way(w);
            due.is("way(" + w + ") again without a thing", h.way(w), w);
            h.make(1, 0);
            String before = Told.of(h);
            due.is("way(" + w + ") again with a thing", h.way(w), Told.STATE);
            due.is("way(" + (1 - w) + ") with a thing", h.way(1 - w), Told.STATE);
            due.is("way(2) with a thing: OUTSIDE comes first", h.way(2), Told.OUTSIDE);
            due.same("a refused way()", Told.of(h), before);
            h.full();
            due.is("way(" + w + ") when none is left", h.way(w), w);
        }
    }

    private static void autos() {
        due.sentence("AUTO, or not: what it was (1, 0)");
        StickyHeap h = Told.heap(1);
        due.is("auto(true)", h.auto(true), 1);
        due.is("auto(false)", h.auto(false), 1);
        due.is("auto(false)", h.auto(false), 0);
        h.make(0, 33);
        due.is("make(0, 33) without", h.make(0, 33), Told.FULL);
        due.is("auto(true)", h.auto(true), 0);
        due.is("make(0, 33) with", h.make(0, 33), 0);
        due.is("auto(true)", h.auto(true), 1);
    }

    public static void main(String[] args) {
        newObject();
        blocks();
        anew();
        seenAnew();
        growsAgain();
        howMany();
        everStays();
        openOutside();
        ways();
        wayOutside();
        wayAlready();
        autos();
        due.end();
    }
}
