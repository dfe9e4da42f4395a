import java.math.BigInteger;
import java.util.ArrayList;
import java.util.List;

/** Promises 21 to 24: block, room, count, digest; a test for each sentence that names an edge. */
public final class TellingEdgesTest {
    private static final Due due = new Due("TellingEdgesTest");
    private static final int[] LEAST_SIZES = {1, 3, 5, 9, 17, 33};
    private static final int[] CELLS = {32, 16, 8, 4, 2, 1};

    private static void row(StickyHeap h, int what, int... want) {
        for (int b = 0; b < want.length; b++) due.is("block(" + b + ", " + what + ")", h.block(b, what), want[b]);
    }

    /** Blocks 0 and 1 small, 2 to 5 a large thing, 6 barred, 7 free; of the small and the large ones some are old. */
    private static StickyHeap mixed() {
        StickyHeap h = new StickyHeap();
        for (int k = 0; k < 32; k++) h.make(0, 1);
        h.make(1, 31);
        h.make(0, 256);
        h.root(0, 0);
        h.root(1, 62);
        h.root(2, 64);
        h.root(3, 128);
        h.push(384);
        h.full();
        for (int k = 0; k < 29; k++) h.make(0, 2);
        return h;
    }

    private static void sorts() {
        due.sentence("its sort: 0 FREE, 1 SMALL, 2 LARGE, the first one, 3 one behind that");
        row(mixed(), 0, 1, 1, 2, 3, 3, 3, 0, 0);
        row(new StickyHeap(), 0, 0, 0, 0, 0, 0, 0, 0, 0);
    }

    private static void details() {
        due.sentence("1 its CLASS (SMALL), how many BLOCKS the THING has (LARGE, the first one), else 0");
        row(mixed(), 1, 0, 4, 4, 0, 0, 0, 0, 0);
    }

    private static void used() {
        due.sentence("2 how many CELLS are used (LARGE: the first one 1)");
        StickyHeap h = mixed();
        row(h, 2, 31, 1, 1, 0, 0, 0, 0, 0);
        h.make(0, 2);
        due.is("all of them", h.block(0, 2), 32);
        h.full();
        due.is("two of them", h.block(0, 2), 2);
    }

    private static void oldOnes() {
        due.sentence("3 how many of their THINGS are OLD");
        StickyHeap h = mixed();
        row(h, 3, 2, 1, 1, 0, 0, 0, 0, 0);
        h = new StickyHeap();
        h.make(0, 33);
        row(h, 3, 0, 0);
    }

    private static void dirtyOrBarred() {
        due.sentence("4 whether it is DIRTY; 5 whether it is BARRED");
        StickyHeap h = mixed();
        row(h, 4, 0, 0, 0, 0, 0, 0, 0, 0);
        row(h, 5, 0, 0, 0, 0, 0, 0, 1, 0);
        h.open(8);
        row(h, 5, 0, 0, 0, 0, 0, 0, 0, 0);
        h.way(1);
        h.make(0, 64);
        h.make(128, 0);
        h.put(64, 127, 0);
        row(h, 4, 0, 0, 1, 0, 0, 0, 0, 0);
        h.open(8);
        row(h, 4, 0, 0, 0, 0, 0, 0, 0, 0);
    }

    private static void blockRefused() {
        due.sentence("block: UNKNOWN; OUTSIDE");
        for (int blocks : new int[] {1, 8, 24}) {
            StickyHeap h = Told.heap(blocks);
            due.is("the first one", h.block(0, 5), 0);
            due.is("the last one", h.block(blocks - 1, 5), 0);
            for (int b : new int[] {-1, blocks, 24, 25, Integer.MIN_VALUE, Integer.MAX_VALUE}) {
                due.is("block(" + b + ", 0)", h.block(b, 0), Told.UNKNOWN);
                due.is("block(" + b + ", 6): UNKNOWN first", h.block(b, 6), Told.UNKNOWN);
                due.is("block(" + b + ", -1): UNKNOWN first", h.block(b, -1), Told.UNKNOWN);
            }
            for (int what : new int[] {-1, 6, Integer.MIN_VALUE, Integer.MAX_VALUE}) {
                due.is("block(0, " + what + ")", h.block(0, what), Told.OUTSIDE);
                due.is("block(last, " + what + ")", h.block(blocks - 1, what), Told.OUTSIDE);
            }
        }
    }

    private static void rooms() {
        due.sentence("How many THINGS of a CLASS (5: LARGE) could be made now, one behind the other,"
            + " with one word more than the CLASS below has (LARGE: 33), and no collection");
        for (int c = 0; c < 6; c++) {
            due.is("room(" + c + ") of 24 blocks", Told.heap(24).room(c), 24 * CELLS[c]);
            StickyHeap h = Told.heap(3);
            h.make(0, LEAST_SIZES[c]);
            h.make(0, 64);
            int room = h.room(c);
            due.is("room(" + c + ")", room, c == 5 ? 1 : 2 * CELLS[c] - 1);
            // With AUTO on, the makings that room() tells must go without a collection, and the next one not.
            for (int k = room; k > 0; k--) {
                due.is("room(" + c + ")", h.room(c), k);
                h.make(0, LEAST_SIZES[c]);
            }
            due.is("no collection", h.count(9), 0);
            due.is("room(" + c + ") when there is none", h.room(c), 0);
            for (int other = 0; other < 6; other++) due.is("room(" + other + ") when there is none", h.room(other), 0);
            h.make(0, LEAST_SIZES[c]);
            due.is("a collection", h.count(9), 1);
        }
    }

    private static void roomChangesNothing() {
        due.sentence("could be made now .. and no collection");
        StickyHeap h = Told.heap(2);
        h.make(0, 64);
        h.make(0, 5);
        String before = Told.of(h);
        int[] want = {0, 0, 7, 0, 0, 0};
        for (int c = 0; c < 6; c++) due.is("room(" + c + ")", h.room(c), want[c]);
        due.same("room()", Told.of(h), before);
    }

    private static void roomWithBars() {
        due.sentence("BARRED BLOCKS not minded");
        StickyHeap h = Told.still(3);
        h.push(0);
        h.push(191);
        h.minor();
        due.is("count(4)", h.count(4), 2);
        for (int c = 0; c < 6; c++) due.is("room(" + c + ")", h.room(c), 3 * CELLS[c]);
        for (int k = 0; k < 3; k++) due.holds("one by one", h.make(0, 33) >= 0);
        due.is("room(5)", h.room(5), 0);
    }

    /** A barred block counts in the room of every class, and as many things can indeed be made without a collection. */
    private static void roomIsWhatCanBeMade() {
        due.sentence("How many THINGS of a CLASS (5: LARGE) could be made now .. BARRED BLOCKS not minded");
        for (int c = 0; c < 6; c++) {
            StickyHeap h = Told.heap(3);
            h.push(64);
            h.push(-1);
            h.minor();
            due.is("room(" + c + ") with AUTO", h.room(c), 3 * CELLS[c]);
            h.auto(false);
            for (int k = 3 * CELLS[c]; k > 0; k--) {
                due.is("room(" + c + ")", h.room(c), k);
                due.holds("make(0, " + LEAST_SIZES[c] + ")", h.make(0, LEAST_SIZES[c]) >= 0);
            }
            due.is("room(" + c + ") at last", h.room(c), 0);
            due.is("make(0, " + LEAST_SIZES[c] + ") at last", h.make(0, LEAST_SIZES[c]), Told.FULL);
            due.is("no collection but the first", h.count(9) + h.count(10), 1);
        }
    }

    private static void roomRefused() {
        due.sentence("room: OUTSIDE");
        StickyHeap h = mixed();
        for (int c : new int[] {-1, 6, Integer.MIN_VALUE, Integer.MAX_VALUE}) due.is("room(" + c + ")", h.room(c), Told.OUTSIDE);
        int[] want = {1 + 64, 32, 16, 8, 1 + 4, 2};
        for (int c = 0; c < 6; c++) due.is("room(" + c + ")", h.room(c), want[c]);
    }

    private static void counts() {
        due.sentence("How many: 0 BLOCKS, 1 THINGS, 2 OLD ones, 3 FREE BLOCKS, 4 BARRED ones .. 11 LOOKED AT. OUTSIDE");
        StickyHeap h = mixed();
        int[] want = {8, 33, 4, 2, 1, 0, 0, 63, 30, 0, 1, 1};
        for (int what = 0; what < 12; what++) due.is("count(" + what + ")", h.count(what), want[what]);
        for (int what : new int[] {-1, 12, Integer.MIN_VALUE, Integer.MAX_VALUE}) {
            due.is("count(" + what + ")", h.count(what), Told.OUTSIDE);
        }
    }

    private static void countsOfTheLog() {
        due.sentence("5 THINGS in THE LOG (by WAY 1 those that count so; OVER: OLD ones), 6 whether THE LOG is OVER");
        StickyHeap h = Told.manyOld(20);
        for (int k = 0; k < 14; k++) {
            due.is("count(5) of " + k, h.count(5), k < 13 ? k : 21);
            due.is("count(6) of " + k, h.count(6), k < 13 ? 0 : 1);
            h.put(64 + 2 * k, 0, 0);
        }
        h.make(1, 1);
        due.is("a young one is not among them", h.count(5), 21);
        h = Told.byBlocks(2);
        h.root(0, h.make(1, 1));
        h.root(1, h.make(1, 1));
        h.root(2, h.make(0, 2));
        h.minor();
        h.make(1, 1);
        due.is("count(5) by WAY 1", h.count(5), 0);
        h.put(6, 0, Told.NONE);
        due.is("count(5) by WAY 1: old ones that have a reference there", h.count(5), 2);
        due.is("count(6) by WAY 1", h.count(6), 0);
    }

    private static void everGrows() {
        due.sentence("ever: 7 THINGS made, 8 gone by collections, 9 MINOR, 10 FULL COLLECTIONS, 11 LOOKED AT");
        StickyHeap h = Told.heap(1);
        h.root(0, h.make(2, 62));
        due.is("a making that is refused", h.make(0, 64), Told.FULL);
        due.is("a making that is refused", h.make(0, 0), Told.OUTSIDE);
        h.open(1);
        h.make(0, 64);
        h.make(0, 64);
        int[] want = {3, 1, 2, 1, 4};
        for (int k = 0; k < 5; k++) due.is("count(" + (7 + k) + ")", h.count(7 + k), want[k]);
    }

    private static long wrapped(List<Integer> numbers) {
        BigInteger h = BigInteger.valueOf(43);
        for (int number : numbers) h = h.multiply(BigInteger.valueOf(31)).add(BigInteger.valueOf(number));
        return h.longValue();
    }

    private static void add(List<Integer> row, int... numbers) {
        for (int number : numbers) row.add(number);
    }

    private static void digestOfNothing() {
        due.sentence("h is 43, then for each of these numbers, in order, 31 times h, and it (as longs, wrapping)");
        for (int blocks : new int[] {1, 24}) {
            List<Integer> row = new ArrayList<>();
            add(row, blocks);
            for (int i = 0; i < 10; i++) row.add(-1);
            for (int k = 0; k < 3 * blocks; k++) row.add(0);
            add(row, 0);
            due.is("digest() of " + blocks + " blocks", Told.heap(blocks).digest(), wrapped(row));
        }
    }

    private static void digestOfExtremes() {
        due.sentence("its REFERENCES (ADDRESSES, NONE), NUMBERS; ROOTS; THE STACK from the lowest one (the greatest numbers)");
        StickyHeap h = Told.heap(1);
        h.make(1, 63);
        int least = Integer.MIN_VALUE, most = Integer.MAX_VALUE;
        for (int i = 1; i < 64; i++) h.set(0, i, i % 2 == 0 ? least : most);
        for (int k = 0; k < 24; k++) h.push(k % 3 == 0 ? least : k % 3 == 1 ? most : -1);
        h.root(9, 0);
        List<Integer> row = new ArrayList<>();
        add(row, 1, 0, 1, 63, 0, -1);
        for (int i = 1; i < 64; i++) row.add(i % 2 == 0 ? least : most);
        for (int i = 0; i < 9; i++) row.add(-1);
        add(row, 0);
        for (int k = 0; k < 24; k++) row.add(k % 3 == 0 ? least : k % 3 == 1 ? most : -1);
        add(row, 2, 0, 0, 0);
        due.is("digest()", h.digest(), wrapped(row));
    }

    private static void digestByAddresses() {
        due.sentence("of each THING by ADDRESSES; of each BLOCK its sort, 1 if it is DIRTY, 1 if it is BARRED");
        StickyHeap h = Told.byBlocks(4);
        h.make(0, 33);
        h.make(0, 1);
        h.make(1, 64);
        h.put(128, 0, 64);
        h.root(0, 128);
        h.minor();
        h.push(10);
        h.minor();
        h.put(128, 0, 128);
        List<Integer> row = new ArrayList<>();
        add(row, 4, 64, 0, 1, 1, 0, 128, 1, 64, 1, 128);
        for (int k = 0; k < 64; k++) row.add(0);
        add(row, 128);
        for (int i = 1; i < 10; i++) row.add(-1);
        add(row, 10, 0, 0, 1, 1, 0, 0, 2, 1, 0, 3, 0, 0, 0);
        due.is("digest()", h.digest(), wrapped(row));
        due.is("made behind, but at a lesser address", h.make(0, 2), 66);
        row.addAll(5 + 1, List.of(66, 0, 2, 0, 0, 0));
        due.is("digest()", h.digest(), wrapped(row));
    }

    private static void digestOfTheLog() {
        due.sentence("THE LOG (ADDRESSES), 1 if it is OVER");
        for (int written : new int[] {0, 1, 12, 13, 14}) {
            StickyHeap h = Told.manyOld(14);
            for (int k = 0; k < written; k++) h.put(90 - 2 * k, 0, Told.NONE);
            List<Integer> row = new ArrayList<>();
            add(row, 8, 0, 32, 1, 1);
            for (int k = 0; k < 32; k++) row.add(k < 14 ? 64 + 2 * k : -1);
            add(row, 0);
            for (int k = 0; k < 14; k++) add(row, 64 + 2 * k, 1, 1, 1, -1, 0);
            add(row, 0);
            for (int i = 1; i < 10; i++) row.add(-1);
            add(row, 2, 0, 0, 1);
            for (int k = 0; k < 2 + 3 * 6; k++) row.add(0);
            for (int k = 0; k < Math.min(written, 12); k++) row.add(90 - 2 * k);
            add(row, written > 12 ? 1 : 0);
            due.is("digest() of " + written + " written", h.digest(), wrapped(row));
        }
    }

    public static void main(String[] args) {
        sorts();
        details();
        used();
        oldOnes();
        dirtyOrBarred();
        blockRefused();
        rooms();
        roomChangesNothing();
        roomWithBars();
        roomIsWhatCanBeMade();
        roomRefused();
        counts();
        countsOfTheLog();
        everGrows();
        digestOfNothing();
        digestOfExtremes();
        digestByAddresses();
        digestOfTheLog();
        due.end();
    }
}
