/** Promises 21 to 24: block, room, count, digest. */
public final class TellingTest {
    private static final Due due = new Due("TellingTest");

    private static void row(StickyHeap h, int b, int... want) {
        for (int what = 0; what < want.length; what++) {
            due.is("block(" + b + ", " + what + ")", h.block(b, what), want[what]);
        }
    }

    private static void blocks() {
        StickyHeap h = new StickyHeap();
        h.make(0, 20);
        h.make(1, 19);
        h.root(0, 32);
        h.make(0, 150);
        h.root(1, 64);
        h.push(500);
        row(h, 0, 1, 4, 2, 0, 0, 0);
        row(h, 1, 2, 3, 1, 0, 0, 0);
        row(h, 2, 3, 0, 0, 0, 0, 0);
        row(h, 3, 3, 0, 0, 0, 0, 0);
        row(h, 4, 0, 0, 0, 0, 0, 0);
        h.minor();
        h.make(0, 18);
        row(h, 0, 1, 4, 2, 1, 0, 0);
        row(h, 1, 2, 3, 1, 1, 0, 0);
        row(h, 3, 3, 0, 0, 0, 0, 0);
        row(h, 7, 0, 0, 0, 0, 0, 1);
        for (int b : new int[] {-1, 8, 24, Integer.MIN_VALUE, Integer.MAX_VALUE}) {
            due.is("block(" + b + ", 0)", h.block(b, 0), StickyHeap.UNKNOWN);
            due.is("UNKNOWN ahead of OUTSIDE", h.block(b, 9), StickyHeap.UNKNOWN);
        }
        for (int what : new int[] {-1, 6, Integer.MIN_VALUE, Integer.MAX_VALUE}) {
            due.is("block(0, " + what + ")", h.block(0, what), StickyHeap.OUTSIDE);
        }
    }

    private static void rooms() {
        StickyHeap h = new StickyHeap();
        int[] cells = {32, 16, 8, 4, 2, 1};
        for (int c = 0; c < 6; c++) due.is("room(" + c + ") at first", h.room(c), 8 * cells[c]);
        h.open(4);
        h.make(0, 7);
        h.make(0, 7);
        h.make(0, 40);
        h.push(200);
        h.root(0, 0);
        h.root(1, 8);
        h.root(2, 64);
        h.minor();
        due.is("count(4)", h.count(4), 1);
        due.is("room(0)", h.room(0), 64);
        due.is("room(1)", h.room(1), 32);
        due.is("room(2)", h.room(2), 6 + 16);
        due.is("room(3)", h.room(3), 8);
        due.is("room(4)", h.room(4), 4);
        due.is("room(5)", h.room(5), 2);
        for (int c : new int[] {-1, 6, Integer.MIN_VALUE, Integer.MAX_VALUE}) {
            due.is("room(" + c + ")", h.room(c), StickyHeap.OUTSIDE);
        }
        h.auto(false);
        for (int k = h.room(2); k > 0; k--) {
            h.make(0, 5);
            due.is("room(2), one by one", h.room(2), k - 1);
        }
        due.is("make(0, 5)", h.make(0, 5), StickyHeap.FULL);
        due.is("room(0)", h.room(0), 0);
    }

    private static void roomOfLargeApart() {
        StickyHeap h = new StickyHeap();
        h.open(3);
        h.make(0, 33);
        h.make(0, 33);
        h.root(0, 64);
        h.minor();
        due.is("room(5): blocks need not lie in a row", h.room(5), 2);
    }

    private static void counts() {
        StickyHeap h = new StickyHeap();
        h.open(3);
        h.make(2, 2);
        h.make(0, 33);
        h.root(0, 0);
        h.push(130);
        h.minor();
        h.put(0, 1, 0);
        h.make(1, 1);
        h.full();
        h.make(0, 1);
        h.put(0, 1, -1);
        int[] want = {3, 2, 1, 1, 1, 1, 0, 4, 2, 1, 1, 4};
        for (int what = 0; what < 12; what++) due.is("count(" + what + ")", h.count(what), want[what]);
        for (int what : new int[] {-1, 12, Integer.MIN_VALUE, Integer.MAX_VALUE}) {
            due.is("count(" + what + ")", h.count(what), StickyHeap.OUTSIDE);
        }
    }

    private static long digestOf(long... numbers) {
        long h = 43;
        for (long number : numbers) h = 31 * h + number;
        return h;
    }

    private static void digests() {
        StickyHeap h = new StickyHeap();
        h.open(2);
        due.is("digest() of an empty one", h.digest(),
            digestOf(2, -1, -1, -1, -1, -1, -1, -1, -1, -1, -1, 0, 0, 0, 0, 0, 0, 0));
        h.make(2, 1);
        h.put(0, 1, 0);
        h.set(0, 2, -9);
        h.root(3, 0);
        h.push(70);
        h.push(-5);
        h.minor();
        h.put(0, 1, 0);
        h.make(0, 4);
        due.is("digest() of two things, a log, a bar", h.digest(),
            digestOf(2, 0, 2, 1, 1, -1, 0, -9, 4, 0, 4, 0, 0, 0, 0, 0, -1, -1, -1, 0, -1, -1, -1, -1, -1, -1,
                70, -5, 1, 0, 0, 0, 0, 1, 0, 0));
        h.open(2);
        h.way(1);
        h.make(1, 64);
        h.put(0, 0, -1);
        long[] row = new long[1 + 4 + 65 + 10 + 6 + 1];
        row[0] = 2;
        row[2] = 1;
        row[3] = 64;
        row[5] = -1;
        for (int i = 0; i < 10; i++) row[70 + i] = -1;
        row[80] = 2;
        row[81] = 1;
        row[83] = 3;
        due.is("digest() of a large one, dirty", h.digest(), digestOf(row));
    }

    private static void digestOfALogThatIsOver() {
        StickyHeap h = new StickyHeap();
        h.open(1);
        h.root(0, h.make(1, 0));
        for (int k = 0; k < 12; k++) {
            h.make(1, 0);
            h.put(2 * k, 0, 2 * k + 2);
        }
        h.minor();
        for (int k = 0; k < 13; k++) h.put(2 * k, 0, -1);
        long[] row = new long[1 + 13 * 5 + 10 + 3 + 12 + 1];
        int at = 0;
        row[at++] = 1;
        for (int k = 0; k < 13; k++) {
            row[at++] = 2 * k;
            row[at++] = 1;
            row[at++] = 0;
            row[at++] = 1;
            row[at++] = -1;
        }
        for (int i = 0; i < 10; i++) row[at++] = i == 0 ? 0 : -1;
        row[at++] = 1;
        at += 2;
        for (int k = 0; k < 12; k++) row[at++] = 2 * k;
        row[at] = 1;
        due.is("digest() of a log that is over", h.digest(), digestOf(row));
    }

    public static void main(String[] args) {
        blocks();
        rooms();
        roomOfLargeApart();
        counts();
        digests();
        digestOfALogThatIsOver();
        due.end();
    }
}
