/** Promises 5 to 12: make, put, link, set, get, seen, about, points. */
public final class ThingsTest {
    private static final Due due = new Due("ThingsTest");
    private static final int INDEX = -12;

    private static void classes() {
        int[] least = {1, 3, 5, 9, 17};
        for (int c = 0; c < 5; c++) {
            int cell = 2 << c;
            StickyHeap h = new StickyHeap();
            h.make(0, 33);
            due.is("make of the least size of class " + c, h.make(0, least[c]), 64);
            due.is("make of the greatest size of class " + c, h.make(cell, 0), 64 + cell);
            due.is("about 4 of class " + c, h.about(64, 4), cell);
            due.is("about 5 of class " + c, h.about(64, 5), c);
            due.is("about 5 of class " + c, h.about(64 + cell, 5), c);
            for (int k = 2; k < 64 / cell; k++) due.is("next cell", h.make(1, least[c] - 1), 64 + k * cell);
            due.is("next block", h.make(1, least[c] - 1), 128);
        }
    }

    private static void largeOnes() {
        int[][] rows = {{33, 1}, {64, 1}, {65, 2}, {128, 2}, {129, 3}, {192, 3}, {193, 4}, {256, 4}};
        for (int[] row : rows) {
            StickyHeap h = new StickyHeap();
            due.is("make(0, " + row[0] + ")", h.make(0, row[0]), 0);
            due.is("about(0, 4)", h.about(0, 4), 64 * row[1]);
            due.is("about(0, 5)", h.about(0, 5), 5);
            due.is("count(3)", h.count(3), 8 - row[1]);
            due.is("the next one", h.make(row[0], 0), 64 * row[1]);
        }
    }

    private static void largeInARow() {
        StickyHeap h = new StickyHeap();
        h.open(6);
        h.make(0, 33);
        h.make(0, 1);
        h.make(0, 33);
        h.root(0, 64);
        h.root(1, 128);
        h.minor();
        due.is("make(0, 65) does not fit ahead", h.make(0, 65), 192);
        due.is("make(0, 33) does", h.make(0, 33), 0);
        due.is("make(0, 64) at the end", h.make(0, 64), 320);
    }

    private static void leastCellFirst() {
        StickyHeap h = new StickyHeap();
        h.open(3);
        for (int k = 0; k < 4; k++) h.make(0, 32);
        h.root(0, 0);
        h.root(1, 96);
        h.minor();
        due.is("the least address", h.make(0, 32), 32);
        due.is("the next one, in a block behind", h.make(0, 32), 64);
        due.is("then a free block", h.make(0, 32), 128);
    }

    private static void shapesRefused() {
        StickyHeap h = new StickyHeap();
        int[][] rows = {{0, 0}, {-1, 1}, {1, -1}, {-1, 2}, {2, -1}, {256, -1}, {257, -1}, {257, 0}, {0, 257}, {128, 129}, {-5, 261},
            {Integer.MAX_VALUE, 1}, {Integer.MAX_VALUE, Integer.MAX_VALUE}, {Integer.MIN_VALUE, Integer.MIN_VALUE},
            {Integer.MIN_VALUE, 1}, {Integer.MAX_VALUE, -2147483600}};
        long before = h.digest();
        for (int[] row : rows) {
            due.is("make(" + row[0] + ", " + row[1] + ")", h.make(row[0], row[1]), StickyHeap.OUTSIDE);
        }
        due.is("digest()", h.digest(), before);
        due.is("count(7)", h.count(7), 0);
        due.is("make(256, 0)", h.make(256, 0), 0);
        due.is("make(128, 128)", h.make(128, 128), 256);
        due.is("count(7)", h.count(7), 2);
    }

    private static void cellsAreCleanAgain() {
        StickyHeap h = new StickyHeap();
        h.make(2, 2);
        h.put(0, 0, 0);
        h.put(0, 1, 0);
        h.set(0, 2, 5);
        h.set(0, 3, 6);
        h.minor();
        due.is("made anew", h.make(3, 1), 0);
        for (int i = 0; i < 3; i++) due.is("link(0, " + i + ")", h.link(0, i), StickyHeap.NONE);
        h.get(0, 3);
        due.is("number of one made anew", h.seen(), 0);
        due.is("young as it is made", h.about(0, 2), 0);
    }

    /** Minor, then full, then the barred blocks: each only if the one ahead of it did not help. */
    private static void collectionsOfMake() {
        StickyHeap h = new StickyHeap();
        h.open(2);
        h.make(0, 64);
        h.root(0, 0);
        h.minor();
        h.root(0, -1);
        h.make(0, 64);
        due.is("make: a minor one helps", h.make(0, 64), 64);
        due.is("count(9)", h.count(9), 2);
        due.is("count(10)", h.count(10), 0);
        h.root(0, 64);
        due.is("make: a full one helps", h.make(0, 64), 0);
        due.is("count(9)", h.count(9), 3);
        due.is("count(10)", h.count(10), 1);
        h.root(1, 0);
        due.is("make: nothing helps", h.make(0, 64), StickyHeap.FULL);
        due.is("count(9)", h.count(9), 4);
        due.is("count(10)", h.count(10), 2);
        due.is("a refused make collected", h.about(0, 2), 1);
        due.is("count(7)", h.count(7), 4);
    }

    private static void barredBlocks() {
        StickyHeap h = new StickyHeap();
        h.open(3);
        h.push(64);
        h.minor();
        due.is("make(0, 1)", h.make(0, 1), 0);
        due.is("make(0, 3): the barred one is passed by", h.make(0, 3), 128);
        due.is("no collection for it", h.count(9), 1);
        h.auto(false);
        due.is("make(0, 5): at last the barred one", h.make(0, 5), 64);
        due.is("without AUTO no collection", h.count(9) + h.count(10), 1);
        due.is("not barred any more", h.block(1, 5), 0);
        h.open(4);
        h.push(70);
        h.minor();
        due.is("two in a row past the barred one", h.make(0, 128), 128);
        h.open(4);
        h.push(70);
        h.minor();
        due.is("three in a row over the barred one", h.make(0, 129), 0);
        due.is("count(4)", h.count(4), 0);
    }

    private static void barredWithAuto() {
        StickyHeap h = new StickyHeap();
        h.open(2);
        h.push(127);
        h.minor();
        h.make(0, 64);
        h.root(0, 0);
        due.is("the barred one, behind both collections", h.make(0, 64), 64);
        due.is("count(9)", h.count(9), 2);
        due.is("count(10)", h.count(10), 1);
        h.open(2);
        h.push(127);
        h.minor();
        h.pop();
        h.make(0, 64);
        h.root(0, 0);
        due.is("a minor one lifts the bar", h.make(0, 64), 64);
        due.is("count(10)", h.count(10), 1);
        h.open(2);
        h.make(0, 64);
        h.root(0, h.make(0, 64));
        h.minor();
        h.push(0);
        h.minor();
        h.root(0, -1);
        due.is("behind a full one the barred one is still passed by", h.make(0, 64), 64);
        due.is("count(10)", h.count(10), 2);
        due.is("block(0, 5)", h.block(0, 5), 1);
    }

    private static void references() {
        StickyHeap h = new StickyHeap();
        h.make(2, 1);
        h.make(1, 1);
        due.is("put(0, 0, 64)", h.put(0, 0, 64), 1);
        due.is("put(0, 1, 0)", h.put(0, 1, 0), 1);
        due.is("link(0, 0)", h.link(0, 0), 64);
        due.is("link(0, 1)", h.link(0, 1), 0);
        due.is("link(64, 0)", h.link(64, 0), StickyHeap.NONE);
        due.is("put(0, 0, NONE)", h.put(0, 0, StickyHeap.NONE), 1);
        due.is("link(0, 0)", h.link(0, 0), StickyHeap.NONE);
        long before = h.digest();
        for (int i : new int[] {2, 3, -1, Integer.MIN_VALUE, Integer.MAX_VALUE}) {
            due.is("put(0, " + i + ", 0)", h.put(0, i, 0), INDEX);
            due.is("link(0, " + i + ")", h.link(0, i), INDEX);
            due.is("UNKNOWN ahead of INDEX", h.put(0, i, 1), StickyHeap.UNKNOWN);
            due.is("UNKNOWN ahead of INDEX", h.link(1, i), StickyHeap.UNKNOWN);
        }
        for (int x : new int[] {1, 2, 4, 65, 66, 128, 511, 512, -1, -64, Integer.MIN_VALUE, Integer.MAX_VALUE}) {
            due.is("put(" + x + ", 0, 0)", h.put(x, 0, 0), StickyHeap.UNKNOWN);
            due.is("link(" + x + ", 0)", h.link(x, 0), StickyHeap.UNKNOWN);
            if (x != -1) due.is("put(0, 0, " + x + ")", h.put(0, 0, x), StickyHeap.UNKNOWN);
        }
        due.is("digest()", h.digest(), before);
    }

    private static void numbers() {
        StickyHeap h = new StickyHeap();
        h.make(1, 2);
        due.is("seen()", h.seen(), 0);
        due.is("set(0, 1, -7)", h.set(0, 1, -7), 1);
        due.is("set(0, 2, least)", h.set(0, 2, Integer.MIN_VALUE), 1);
        due.is("set leaves seen", h.seen(), 0);
        due.is("get(0, 1)", h.get(0, 1), 1);
        due.is("seen()", h.seen(), -7);
        due.is("get(0, 2)", h.get(0, 2), 1);
        due.is("seen()", h.seen(), Integer.MIN_VALUE);
        due.is("seen() again", h.seen(), Integer.MIN_VALUE);
        for (int i : new int[] {0, 3, -1, Integer.MIN_VALUE, Integer.MAX_VALUE}) {
            due.is("set(0, " + i + ", 1)", h.set(0, i, 1), INDEX);
            due.is("get(0, " + i + ")", h.get(0, i), INDEX);
        }
        for (int x : new int[] {1, 4, 64, 512, -1, Integer.MIN_VALUE, Integer.MAX_VALUE}) {
            due.is("set(" + x + ", 1, 1)", h.set(x, 1, 1), StickyHeap.UNKNOWN);
            due.is("get(" + x + ", 1)", h.get(x, 1), StickyHeap.UNKNOWN);
        }
        due.is("refused calls leave seen", h.seen(), Integer.MIN_VALUE);
        due.is("link(0, 0)", h.link(0, 0), StickyHeap.NONE);
        h.make(0, 256);
        due.is("set at the last number", h.set(64, 255, 3), 1);
        due.is("set behind it", h.set(64, 256, 3), INDEX);
    }

    private static void setRemembersNothing() {
        for (int way = 0; way < 2; way++) {
            StickyHeap h = new StickyHeap();
            h.way(way);
            h.make(1, 1);
            h.root(0, 0);
            h.minor();
            h.set(0, 1, 4);
            due.is("count(5) behind set, way " + way, h.count(5), 0);
            due.is("block(0, 4) behind set, way " + way, h.block(0, 4), 0);
        }
    }

    private static void abouts() {
        StickyHeap h = new StickyHeap();
        h.make(2, 3);
        due.is("about(0, 0)", h.about(0, 0), 2);
        due.is("about(0, 1)", h.about(0, 1), 3);
        due.is("about(0, 2)", h.about(0, 2), 0);
        due.is("about(0, 3)", h.about(0, 3), 0);
        h.put(0, 0, 0);
        due.is("a young one is not logged", h.about(0, 3), 0);
        h.root(0, 0);
        h.minor();
        due.is("about(0, 2) of an old one", h.about(0, 2), 1);
        due.is("about(0, 3) ahead of put", h.about(0, 3), 0);
        h.put(0, 1, -1);
        due.is("about(0, 3) behind put", h.about(0, 3), 1);
        for (int what : new int[] {-1, 6, Integer.MIN_VALUE, Integer.MAX_VALUE}) {
            due.is("about(0, " + what + ")", h.about(0, what), StickyHeap.OUTSIDE);
            due.is("UNKNOWN ahead of OUTSIDE", h.about(1, what), StickyHeap.UNKNOWN);
        }
        for (int x : new int[] {8, 64, 511, 512, -1, -2, Integer.MIN_VALUE, Integer.MAX_VALUE}) {
            due.is("about(" + x + ", 0)", h.about(x, 0), StickyHeap.UNKNOWN);
        }
    }

    private static void pointsAt() {
        StickyHeap h = new StickyHeap();
        h.make(0, 65);
        h.make(0, 3);
        h.make(0, 17);
        h.make(0, 17);
        for (int w = 0; w < 128; w++) due.is("points(" + w + ")", h.points(w), 0);
        for (int w = 128; w < 132; w++) due.is("points(" + w + ")", h.points(w), 128);
        for (int w = 132; w < 192; w++) due.is("points(" + w + ")", h.points(w), StickyHeap.NONE);
        for (int w = 192; w < 256; w++) due.is("points(" + w + ")", h.points(w), w < 224 ? 192 : 224);
        for (int w : new int[] {256, 511, 512, 1536, -1, -64, Integer.MIN_VALUE, Integer.MAX_VALUE}) {
            due.is("points(" + w + ")", h.points(w), StickyHeap.NONE);
        }
        h.minor();
        due.is("points(0) when it is gone", h.points(0), StickyHeap.NONE);
        due.is("points(127) when it is gone", h.points(127), StickyHeap.NONE);
    }

    public static void main(String[] args) {
        classes();
        largeOnes();
        largeInARow();
        leastCellFirst();
        shapesRefused();
        cellsAreCleanAgain();
        collectionsOfMake();
        barredBlocks();
        barredWithAuto();
        references();
        numbers();
        setRemembersNothing();
        abouts();
        pointsAt();
        due.end();
    }
}
