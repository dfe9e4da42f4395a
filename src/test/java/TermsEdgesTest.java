/** The limits that "What it is" and part 1 of the Terms name: a test for each sentence. */
public final class TermsEdgesTest {
    private static final Due due = new Due("TermsEdgesTest");

    private static void eightAtFirst() {
        due.sentence("THE HEAP has B BLOCKS (8 at first)");
        StickyHeap h = new StickyHeap();
        due.is("count(0)", h.count(0), 8);
        due.is("block(7, 0)", h.block(7, 0), 0);
        due.is("block(8, 0)", h.block(8, 0), Told.UNKNOWN);
        h.auto(false);
        for (int b = 0; b < 8; b++) due.is("make(0, 64)", h.make(0, 64), 64 * b);
        due.is("a ninth", h.make(0, 64), Told.FULL);
    }

    private static void wordsOfABlock() {
        due.sentence("BLOCK b having the words 64 b to 64 b + 63");
        for (int blocks : new int[] {1, 2, 8, 24}) {
            StickyHeap h = Told.still(blocks);
            for (int b = 0; b < blocks; b++) due.is("make(0, 64)", h.make(0, 64), 64 * b);
            for (int b = 0; b < blocks; b++) {
                due.is("points at the first word of " + b, h.points(64 * b), 64 * b);
                due.is("points at the last word of " + b, h.points(64 * b + 63), 64 * b);
            }
            due.is("a word ahead of the heap", h.points(-1), Told.NONE);
            due.is("a word behind the heap", h.points(64 * blocks), Told.NONE);
        }
    }

    private static void calls() {
        due.sentence("An object is used for at most 512 calls");
        StickyHeap h = Told.still(24);
        for (int k = 0; k < 509; k++) due.is("make(0, 1)", h.make(0, 1), 2 * k);
        due.is("the 512th call", h.count(1), 509);
        h = Told.heap(1);
        for (int k = 0; k < 510; k++) due.is("make(0, 33)", h.make(0, 33), 0);
        due.is("the 512th call, behind 509 collections", h.count(9), 509);
        h = Told.heap(24);
        for (int k = 0; k < 6; k++) h.root(k, h.make(256, 0));
        for (int k = 0; k < 498; k++) due.is("full()", h.full(), 0);
        due.is("the 512th call, behind 498 great collections", h.count(11), 498 * 6 * 256);
    }

    private static void cells() {
        due.sentence("SMALL, of a CLASS 0 to 4: its words are CELLS of 2, 4, 8, 16, 32 words, one behind the other");
        int[] words = {2, 4, 8, 16, 32};
        for (int c = 0; c < 5; c++) {
            StickyHeap h = Told.still(2);
            int n = 64 / words[c];
            for (int k = 0; k < n; k++) due.is("cell " + k + " of class " + c, h.make(0, words[c]), k * words[c]);
            due.is("block(1, 0) when the last cell is used", h.block(1, 0), 0);
            due.is("one more: the next block", h.make(0, words[c]), 64);
            due.is("block(0, 0)", h.block(0, 0), 1);
            due.is("block(0, 1)", h.block(0, 1), c);
            due.is("block(0, 2)", h.block(0, 2), n);
            due.is("block(1, 2)", h.block(1, 2), 1);
            due.is("the last word of the last cell", h.points(63), 64 - words[c]);
        }
    }

    private static void firstAndBehind() {
        due.sentence("LARGE: the first of those of a LARGE THING, or one behind that");
        for (int n = 1; n <= 4; n++) {
            StickyHeap h = Told.still(6);
            h.make(0, 1);
            due.is("make of " + n + " blocks", h.make(0, 64 * n), 64);
            for (int b = 1; b < 6; b++) {
                int sort = b == 1 ? 2 : b <= n ? 3 : 0;
                due.is("block(" + b + ", 0) of " + n, h.block(b, 0), sort);
            }
        }
    }

    private static void sizes() {
        due.sentence("r + n is 1 to 256");
        int[][] good = {{1, 0}, {0, 1}, {256, 0}, {0, 256}, {255, 1}, {1, 255}, {128, 128}};
        for (int[] row : good) {
            StickyHeap h = new StickyHeap();
            due.is("make(" + row[0] + ", " + row[1] + ")", h.make(row[0], row[1]), 0);
            due.is("about(0, 0)", h.about(0, 0), row[0]);
            due.is("about(0, 1)", h.about(0, 1), row[1]);
        }
        int[][] bad = {{0, 0}, {257, 0}, {0, 257}, {256, 1}, {1, 256}, {128, 129}};
        for (int[] row : bad) {
            due.is("make(" + row[0] + ", " + row[1] + ")", new StickyHeap().make(row[0], row[1]), Told.OUTSIDE);
        }
    }

    private static void leastClass() {
        due.sentence("It is of the least CLASS whose CELLS have r + n words");
        int[] last = {2, 4, 8, 16, 32};
        int size = 1;
        for (int c = 0; c < 5; c++) {
            for (; size <= last[c]; size++) {
                StickyHeap h = new StickyHeap();
                h.make(size / 2, size - size / 2);
                due.is("about(0, 5) of size " + size, h.about(0, 5), c);
                due.is("about(0, 4) of size " + size, h.about(0, 4), last[c]);
                due.is("block(0, 0) of size " + size, h.block(0, 0), 1);
            }
        }
    }

    private static void fewestBlocks() {
        due.sentence("of more than 32 it is LARGE and has as few BLOCKS in a row as go");
        int[] last = {64, 128, 192, 256};
        int size = 33;
        for (int n = 1; n <= 4; n++) {
            for (; size <= last[n - 1]; size++) {
                StickyHeap h = new StickyHeap();
                h.make(size / 2, size - size / 2);
                due.is("about(0, 5) of size " + size, h.about(0, 5), 5);
                due.is("about(0, 4) of size " + size, h.about(0, 4), 64 * n);
                due.is("block(0, 1) of size " + size, h.block(0, 1), n);
                due.is("count(3) of size " + size, h.count(3), 8 - n);
            }
        }
    }

    private static void numbering() {
        due.sentence("r REFERENCES, numbered from 0 on, and behind them n NUMBERS, numbered on");
        int[][] rows = {{0, 1}, {1, 0}, {1, 1}, {2, 1}, {1, 2}, {0, 3}, {3, 0}, {5, 12}, {16, 16}, {32, 1}, {0, 256},
            {256, 0}, {255, 1}, {1, 255}, {63, 2}, {64, 1}, {65, 63}};
        for (int[] row : rows) {
            int r = row[0], n = row[1];
            StickyHeap h = new StickyHeap();
            h.make(r, n);
            String of = " of (" + r + ", " + n + ")";
            due.is("link ahead of the first" + of, h.link(0, -1), Told.INDEX);
            due.is("link of the first" + of, h.link(0, 0), r > 0 ? Told.NONE : Told.INDEX);
            due.is("link of the last" + of, h.link(0, r - 1), r > 0 ? Told.NONE : Told.INDEX);
            due.is("link behind the last" + of, h.link(0, r), Told.INDEX);
            due.is("put at the last" + of, h.put(0, r - 1, 0), r > 0 ? 1 : Told.INDEX);
            due.is("put behind the last" + of, h.put(0, r, 0), Told.INDEX);
            due.is("set ahead of the first number" + of, h.set(0, r - 1, 8), Told.INDEX);
            due.is("set of the last number" + of, h.set(0, r + n - 1, 8), n > 0 ? 1 : Told.INDEX);
            due.is("set behind the last number" + of, h.set(0, r + n, 8), Told.INDEX);
            due.is("set of the first number" + of, h.set(0, r, 7), n > 0 ? 1 : Told.INDEX);
            due.is("get ahead of the first number" + of, h.get(0, r - 1), Told.INDEX);
            due.is("get of the first number" + of, h.get(0, r), n > 0 ? 1 : Told.INDEX);
            due.is("seen()" + of, h.seen(), n > 0 ? 7 : 0);
            due.is("get of the last number" + of, h.get(0, r + n - 1), n > 0 ? 1 : Told.INDEX);
            due.is("seen()" + of, h.seen(), n > 1 ? 8 : n > 0 ? 7 : 0);
            due.is("get behind the last number" + of, h.get(0, r + n), Told.INDEX);
        }
    }

    private static void atFirst() {
        due.sentence("A REFERENCE is a THING, or NONE (at first), a NUMBER an int, 0 at first");
        for (int size : new int[] {2, 4, 32, 256}) {
            StickyHeap h = new StickyHeap();
            // What was a number is a reference next, and the other way round.
            h.make(size / 2, size / 2);
            h.put(0, 0, 0);
            h.put(0, size / 2 - 1, 0);
            h.set(0, size / 2, Integer.MIN_VALUE);
            h.set(0, size - 1, Integer.MAX_VALUE);
            h.get(0, size - 1);
            due.is("the greatest int", h.seen(), Integer.MAX_VALUE);
            h.get(0, size / 2);
            due.is("the least int", h.seen(), size == 2 ? Integer.MAX_VALUE : Integer.MIN_VALUE);
            h.full();
            due.is("make of references where numbers were", h.make(size, 0), 0);
            due.is("link(0, first)", h.link(0, 0), Told.NONE);
            due.is("link(0, a half)", h.link(0, size / 2), Told.NONE);
            due.is("link(0, last)", h.link(0, size - 1), Told.NONE);
            h.put(0, 0, 0);
            h.put(0, size - 1, 0);
            h.full();
            due.is("make of numbers where references were", h.make(0, size), 0);
            for (int i : new int[] {0, size / 2, size - 1}) {
                h.get(0, i);
                due.is("number " + i, h.seen(), 0);
            }
        }
    }

    private static void youngAsMade() {
        due.sentence("THINGS are OLD (they have a MARK) or YOUNG (as they are made)");
        StickyHeap h = new StickyHeap();
        h.make(0, 1);
        due.is("about(0, 2) as made", h.about(0, 2), 0);
        h.root(0, 0);
        h.minor();
        due.is("about(0, 2) as found", h.about(0, 2), 1);
        h.root(0, Told.NONE);
        h.full();
        due.is("make(0, 1) where an old one was", h.make(0, 1), 0);
        due.is("about(0, 2) as made", h.about(0, 2), 0);
        due.is("block(0, 3)", h.block(0, 3), 0);
        due.is("count(2)", h.count(2), 0);
    }

    private static void tenRoots() {
        due.sentence("ROOTS 0 to 9 are a THING, or NONE (at first)");
        StickyHeap h = new StickyHeap();
        for (int i = 0; i < 10; i++) due.is("rooted(" + i + ") at first", h.rooted(i), Told.NONE);
        for (int i = 0; i < 10; i++) due.is("root(" + i + ", one)", h.root(i, h.make(0, 1)), Told.NONE);
        for (int i = 0; i < 10; i++) due.is("rooted(" + i + ")", h.rooted(i), 2 * i);
        due.is("rooted(-1)", h.rooted(-1), Told.UNKNOWN);
        due.is("rooted(10)", h.rooted(10), Told.UNKNOWN);
    }

    private static void stackOf24() {
        due.sentence("THE STACK has 0 to 24 ints, none at first");
        StickyHeap h = new StickyHeap();
        due.is("pop() at first", h.pop(), Told.STATE);
        for (int k = 1; k <= 24; k++) due.is("push", h.push(-k), k);
        due.is("a 25th", h.push(-25), Told.FULL);
        due.is("pop()", h.pop(), 23);
        due.is("the 24th goes first", h.seen(), -24);
        due.is("a 24th again", h.push(-26), 24);
        due.is("top(23)", h.top(23), 1);
        due.is("the lowest one", h.seen(), -1);
    }

    private static void wordsNotUsed() {
        due.sentence("An int POINTS AT a THING, if it is a word of its CELL, or BLOCKS (also one that the THING does not use)");
        int[][] rows = {{1, 2}, {2, 2}, {3, 4}, {5, 8}, {9, 16}, {17, 32}, {32, 32}, {33, 64}, {65, 128}, {129, 192}, {193, 256}};
        for (int[] row : rows) {
            StickyHeap h = new StickyHeap();
            h.make(0, 64);
            h.make(0, row[0]);
            due.is("its first word, of size " + row[0], h.points(64), 64);
            due.is("a word ahead of it, of size " + row[0], h.points(63), 0);
            due.is("its last word that it uses, of size " + row[0], h.points(64 + row[0] - 1), 64);
            due.is("the last word of its place, of size " + row[0], h.points(64 + row[1] - 1), 64);
            due.is("a word behind its place, of size " + row[0], h.points(64 + row[1]), Told.NONE);
            h.push(64 + row[1] - 1);
            due.is("such a word holds it", h.full(), 1);
            due.is("about(64, 2)", h.about(64, 2), 1);
        }
    }

    public static void main(String[] args) {
        eightAtFirst();
        wordsOfABlock();
        calls();
        cells();
        firstAndBehind();
        sizes();
        leastClass();
        fewestBlocks();
        numbering();
        atFirst();
        youngAsMade();
        tenRoots();
        stackOf24();
        wordsNotUsed();
        due.end();
    }
}
