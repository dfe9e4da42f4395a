/** Part 2 of the Terms, and promise 5: where a thing goes, and what is done if there is no place. */
public final class MakingEdgesTest {
    private static final Due due = new Due("MakingEdgesTest");

    private static void leastAddress() {
        due.sentence("A CELL of a CLASS: the least ADDRESS that is not used in BLOCKS of this CLASS");
        StickyHeap h = Told.still(4);
        for (int k = 0; k < 4; k++) h.make(0, 32);
        h.make(0, 1);
        h.root(0, 0);
        h.root(1, 96);
        h.root(2, 128);
        h.full();
        due.is("the last cell of block 0", h.make(0, 32), 32);
        due.is("the first cell of block 1", h.make(0, 32), 64);
        due.is("not a cell of another class: the free block", h.make(0, 32), 192);
        due.is("a cell of class 0, behind the one used", h.make(0, 1), 130);
        due.is("a cell of class 1: none", h.make(0, 3), Told.FULL);
    }

    private static void usedBlocksFirst() {
        due.sentence("if there is none, the least BLOCK that is FREE");
        StickyHeap h = Told.still(3);
        h.make(0, 64);
        h.make(0, 17);
        h.root(0, 64);
        h.full();
        due.is("block(0, 0): free, ahead of the class's block", h.block(0, 0), 0);
        due.is("the last cell of the class's block all the same", h.make(0, 17), 96);
        due.is("then the least free block", h.make(0, 17), 0);
        due.is("its other cell", h.make(0, 17), 32);
        due.is("then the next free block", h.make(0, 17), 128);
    }

    private static void notBarred() {
        due.sentence("the least BLOCK that is FREE and not BARRED becomes SMALL, of this CLASS: its first CELL");
        for (int c = 0; c < 5; c++) {
            StickyHeap h = Told.still(3);
            h.push(63);
            h.minor();
            due.is("past the barred one, class " + c, h.make(0, 2 << c), 64);
            due.is("block(1, 0)", h.block(1, 0), 1);
            due.is("block(1, 1)", h.block(1, 1), c);
            due.is("block(0, 0)", h.block(0, 0), 0);
            due.is("block(0, 5)", h.block(0, 5), 1);
        }
    }

    private static void leastRow() {
        due.sentence("A LARGE THING: the least BLOCKS in a row that are FREE and not BARRED");
        StickyHeap h = Told.still(8);
        h.make(0, 64);
        h.make(0, 64);
        h.make(0, 1);
        h.make(0, 128);
        h.root(0, 64);
        h.root(1, 128);
        h.minor();
        due.is("three in a row: past one and past none", h.make(0, 129), 192);
        due.is("two in a row: the last two", h.make(0, 128), 384);
        due.is("one: the first", h.make(0, 64), 0);
        due.is("no more", h.make(0, 33), Told.FULL);
    }

    private static void rowsAtTheEnd() {
        due.sentence("A LARGE THING: the least BLOCKS in a row (at the heap's end)");
        for (int n = 1; n <= 4; n++) {
            due.is("as many blocks as the heap has", Told.still(n).make(0, 64 * n), 0);
            if (n < 4) due.is("one more than the heap has", Told.still(n).make(0, 64 * n + 1), Told.FULL);
            StickyHeap h = Told.still(n + 1);
            h.make(0, 1);
            due.is("as many as are left", h.make(0, 64 * n), 64);
            h = Told.still(n + 1);
            h.make(0, 1);
            if (n < 4) due.is("one more than are left", h.make(0, 64 * n + 1), Told.FULL);
        }
        StickyHeap h = Told.still(24);
        h.make(0, 256);
        for (int k = 1; k < 6; k++) due.is("four more blocks", h.make(256, 0), 256 * k);
        due.is("the heap is full", h.make(256, 0), Told.FULL);
    }

    private static void rowsPastBars() {
        due.sentence("A LARGE THING: in a row that are FREE and not BARRED");
        for (int barred = 0; barred < 4; barred++) {
            StickyHeap h = Told.still(7);
            h.push(64 * barred + barred);
            h.minor();
            due.is("three blocks, " + barred + " is barred", h.make(0, 192), barred < 3 ? 64 * (barred + 1) : 0);
        }
    }

    private static void autoAtFirst() {
        due.sentence("with AUTO (as it is at first) there is a MINOR COLLECTION, and it is tried again");
        StickyHeap h = new StickyHeap();
        for (int k = 0; k < 8; k++) h.make(0, 64);
        due.is("the last block needs no collection", h.count(9), 0);
        due.is("one more", h.make(0, 64), 0);
        due.is("count(9)", h.count(9), 1);
        due.is("count(10): it was enough", h.count(10), 0);
        due.is("count(8)", h.count(8), 8);
        h = Told.heap(1);
        for (int k = 0; k < 32; k++) h.make(0, 1);
        due.is("the last cell needs no collection", h.count(9), 0);
        h.root(0, 62);
        due.is("one more cell", h.make(0, 1), 0);
        due.is("count(9)", h.count(9), 1);
        due.is("what was found is old", h.about(62, 2), 1);
        due.is("what is made is young", h.about(0, 2), 0);
    }

    private static void thenAFullOne() {
        due.sentence("then a FULL one, and again");
        StickyHeap h = Told.heap(1);
        h.root(0, h.make(0, 33));
        h.minor();
        h.root(0, Told.NONE);
        due.is("an old one that is not held goes", h.make(0, 33), 0);
        due.is("count(9)", h.count(9), 2);
        due.is("count(10)", h.count(10), 1);
        h.root(0, 0);
        due.is("one that is held stays", h.make(0, 1), Told.FULL);
        due.is("count(9), behind one each", h.count(9), 3);
        due.is("count(10), behind one each", h.count(10), 2);
        due.is("a refused make() may have collected", h.about(0, 2), 1);
        due.is("count(7)", h.count(7), 2);
    }

    /** Behind each collection the bars are minded still: only when both did not help they are not. */
    private static void barsBehindCollections() {
        due.sentence("there is a MINOR COLLECTION, and it is tried again; then a FULL one, and again (past what is BARRED)");
        StickyHeap h = Told.heap(2);
        h.push(0);
        h.minor();
        due.is("a young one", h.make(0, 64), 64);
        due.is("behind a minor one, past the barred one", h.make(0, 64), 64);
        due.is("count(9)", h.count(9), 2);
        due.is("count(10)", h.count(10), 0);
        h.root(0, 64);
        h.minor();
        h.root(0, Told.NONE);
        due.is("behind a full one, past the barred one", h.make(0, 64), 64);
        due.is("count(9)", h.count(9), 4);
        due.is("count(10)", h.count(10), 1);
        due.is("block(0, 5)", h.block(0, 5), 1);
        h.root(0, 64);
        due.is("the barred one at last", h.make(0, 64), 0);
        due.is("count(9)", h.count(9), 5);
        due.is("count(10)", h.count(10), 2);
    }

    private static void withoutAuto() {
        due.sentence("with AUTO or not, at last it is tried once more as if no BLOCK were BARRED; then FULL (not AUTO)");
        StickyHeap h = Told.still(4);
        h.push(70);
        h.push(200);
        h.minor();
        h.make(0, 64);
        h.make(0, 64);
        due.is("the least barred one", h.make(0, 3), 64);
        due.is("count(9)", h.count(9), 1);
        due.is("count(10)", h.count(10), 0);
        due.is("the other barred one", h.make(0, 33), 192);
        String before = Told.of(h);
        due.is("then FULL", h.make(0, 33), Told.FULL);
        due.same("without AUTO a refused make()", Told.of(h), before);
        due.is("a cell of a class is still there", h.make(0, 4), 68);
    }

    private static void withAuto() {
        due.sentence("with AUTO or not, at last it is tried once more as if no BLOCK were BARRED; then FULL (AUTO)");
        StickyHeap h = Told.heap(1);
        h.make(0, 1);
        h.push(40);
        due.is("the block becomes free and barred, and is taken at last", h.make(0, 33), 0);
        due.is("count(9)", h.count(9), 1);
        due.is("count(10)", h.count(10), 1);
        due.is("count(4)", h.count(4), 0);
        due.is("held by the stack now", h.make(0, 33), Told.FULL);
        h = Told.heap(2);
        h.push(64);
        h.minor();
        h.root(0, h.make(0, 17));
        due.is("a cell is not minded by a bar", h.make(0, 17), 32);
        due.is("count(10)", h.count(10), 0);
        due.is("a row over free and barred blocks is too long", h.make(0, 128), Told.FULL);
        due.is("the bar stays", h.block(1, 5), 1);
    }

    private static void rowOverBars() {
        due.sentence("as if no BLOCK were BARRED (a row of both)");
        for (int barred = 0; barred < 3; barred++) {
            StickyHeap h = Told.still(3);
            h.push(64 * barred + 63);
            h.minor();
            due.is("three blocks, " + barred + " is barred", h.make(0, 129), 0);
            for (int b = 0; b < 3; b++) due.is("block(" + b + ", 5)", h.block(b, 5), 0);
        }
    }

    private static void outside() {
        due.sentence("OUTSIDE: r, n below 0, both together not 1 to 256");
        int least = Integer.MIN_VALUE, most = Integer.MAX_VALUE;
        int[][] rows = {{-1, 0}, {0, -1}, {-1, 1}, {1, -1}, {-1, 2}, {2, -1}, {-1, 257}, {257, -1}, {-1, -1}, {0, 0}, {257, 0},
            {0, 257}, {1, 256}, {256, 1}, {least, 0}, {0, least}, {most, 0}, {0, most}, {least, least}, {most, most},
            {least, most}, {most, least}, {most, 2}, {2, most}, {least, 256}, {256, least}, {most, -2147483600}};
        StickyHeap h = Told.heap(1);
        h.make(0, 64);
        String before = Told.of(h);
        for (int[] row : rows) {
            due.is("make(" + row[0] + ", " + row[1] + ")", h.make(row[0], row[1]), Told.OUTSIDE);
        }
        due.same("a make() of no such shape collects nothing, though the heap is full, and", Told.of(h), before);
        due.is("the least good one", h.make(0, 1), 0);
    }

    private static void full() {
        due.sentence("OUTSIDE: ..; FULL");
        StickyHeap h = Told.heap(1);
        h.root(0, h.make(0, 32));
        h.root(1, h.make(0, 32));
        due.is("make(0, 32)", h.make(0, 32), Told.FULL);
        due.is("make(0, 1)", h.make(0, 1), Told.FULL);
        due.is("make(0, 256)", h.make(0, 256), Told.FULL);
        due.is("OUTSIDE comes first", h.make(0, 257), Told.OUTSIDE);
        due.is("count(7)", h.count(7), 2);
        due.is("count(9)", h.count(9), 3);
        due.is("count(10)", h.count(10), 3);
        h.root(0, Told.NONE);
        due.is("when one is held no more", h.make(0, 17), 0);
    }

    public static void main(String[] args) {
        leastAddress();
        usedBlocksFirst();
        notBarred();
        leastRow();
        rowsAtTheEnd();
        rowsPastBars();
        autoAtFirst();
        thenAFullOne();
        barsBehindCollections();
        withoutAuto();
        withAuto();
        rowOverBars();
        outside();
        full();
        due.end();
    }
}
