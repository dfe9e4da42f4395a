/** Promises 1 to 4: a new object, open, way, auto. */
public final class HouseTest {
    private static final Due due = new Due("HouseTest");

    private static void newObject() {
        StickyHeap h = new StickyHeap();
        due.is("count(0) at first", h.count(0), 8);
        due.is("count(3) at first", h.count(3), 8);
        for (int what = 1; what <= 11; what++) {
            if (what != 3) due.is("count(" + what + ") at first", h.count(what), 0);
        }
        for (int b = 0; b < 8; b++) {
            for (int what = 0; what < 6; what++) due.is("block(" + b + ", " + what + ") at first", h.block(b, what), 0);
        }
        due.is("block(8, 0) at first", h.block(8, 0), StickyHeap.UNKNOWN);
        for (int i = 0; i < 10; i++) due.is("rooted(" + i + ") at first", h.rooted(i), StickyHeap.NONE);
        due.is("pop() at first", h.pop(), StickyHeap.STATE);
        due.is("seen() at first", h.seen(), 0);
        due.is("logged(0) at first", h.logged(0), StickyHeap.NONE);
        due.is("auto(true) at first", h.auto(true), 1);
        due.is("way(0) at first", h.way(0), 0);
    }

    /** An object in which everything that open() takes back has been moved. */
    private static StickyHeap used(int way) {
        StickyHeap h = new StickyHeap();
        h.way(way);
        h.open(4);
        h.make(1, 1);
        h.root(3, 0);
        h.make(0, 1);
        h.set(0, 1, 9);
        h.push(200);
        h.push(1);
        h.minor();
        h.put(0, 0, 0);
        h.get(0, 1);
        h.auto(false);
        return h;
    }

    private static void openBeginsAnew() {
        for (int way = 0; way < 2; way++) {
            StickyHeap h = used(way);
            due.is("seen() ahead of open", h.seen(), 9);
            due.is("count(4) ahead of open", h.count(4), 1);
            due.is("count(5) ahead of open", h.count(5), 1);
            due.is("open(3)", h.open(3), 1);
            StickyHeap fresh = new StickyHeap();
            fresh.open(3);
            due.is("digest() behind open", h.digest(), fresh.digest());
            due.is("seen() behind open", h.seen(), 0);
            due.is("count(0) behind open", h.count(0), 3);
            due.is("count(1) behind open", h.count(1), 0);
            due.is("count(3) behind open", h.count(3), 3);
            due.is("count(4) behind open", h.count(4), 0);
            due.is("count(7) stays", h.count(7), 2);
            due.is("count(8) stays", h.count(8), 1);
            due.is("count(9) stays", h.count(9), 1);
            due.is("count(10) stays", h.count(10), 0);
            due.is("count(11) stays", h.count(11), 1);
            due.is("auto stays", h.auto(false), 0);
            due.is("way stays", h.way(way), way);
            due.is("make(1, 1) behind open", h.make(1, 1), 0);
            due.is("link(0, 0) behind open", h.link(0, 0), StickyHeap.NONE);
            h.get(0, 1);
            due.is("a number is 0 behind open", h.seen(), 0);
        }
    }

    private static void openEdges() {
        StickyHeap h = used(0);
        long before = h.digest();
        for (int b : new int[] {0, -1, 25, Integer.MIN_VALUE, Integer.MAX_VALUE}) {
            due.is("open(" + b + ")", h.open(b), StickyHeap.OUTSIDE);
            due.is("digest() behind a refused open", h.digest(), before);
            due.is("seen() behind a refused open", h.seen(), 9);
        }
        due.is("open(24)", h.open(24), 1);
        due.is("count(0)", h.count(0), 24);
        due.is("block(23, 0)", h.block(23, 0), 0);
        due.is("block(24, 0)", h.block(24, 0), StickyHeap.UNKNOWN);
        for (int b = 0; b < 24; b += 4) due.is("make(0, 256)", h.make(0, 256), 64 * b);
        due.is("points(1535)", h.points(1535), 1280);
        due.is("open(1)", h.open(1), 6);
        due.is("count(0)", h.count(0), 1);
        due.is("points(64)", h.points(64), StickyHeap.NONE);
    }

    private static void ways() {
        StickyHeap h = new StickyHeap();
        due.is("way(1)", h.way(1), 0);
        due.is("way(1) again", h.way(1), 1);
        for (int w : new int[] {-1, 2, Integer.MIN_VALUE, Integer.MAX_VALUE}) {
            due.is("way(" + w + ")", h.way(w), StickyHeap.OUTSIDE);
        }
        h.make(1, 0);
        due.is("way(0) with things", h.way(0), StickyHeap.STATE);
        due.is("way(1) with things", h.way(1), StickyHeap.STATE);
        due.is("way(2) with things: OUTSIDE comes first", h.way(2), StickyHeap.OUTSIDE);
        h.put(0, 0, 0);
        due.is("the way is still 1", h.block(0, 4), 1);
        h.full();
        due.is("way(0) when they are gone", h.way(0), 1);
    }

    private static void autos() {
        StickyHeap h = new StickyHeap();
        h.open(1);
        due.is("auto(false)", h.auto(false), 1);
        due.is("auto(false) again", h.auto(false), 0);
        h.make(0, 64);
        due.is("make(0, 1) without AUTO", h.make(0, 1), StickyHeap.FULL);
        due.is("count(9) without AUTO", h.count(9), 0);
        due.is("count(10) without AUTO", h.count(10), 0);
        due.is("auto(true)", h.auto(true), 0);
        due.is("make(0, 1) with AUTO", h.make(0, 1), 0);
        due.is("count(9) with AUTO", h.count(9), 1);
        due.is("count(10) with AUTO", h.count(10), 0);
    }

    public static void main(String[] args) {
        newObject();
        openBeginsAnew();
        openEdges();
        ways();
        autos();
        due.end();
    }
}
