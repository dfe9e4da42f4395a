/**
 * A heap of blocks in which nothing ever moves and marks stay from one
 * collection to the next. The document's numbered promises say what each
 * public call does; README.md says how to use it.
 */
public final class StickyHeap {
    public static final int NONE = -1, UNKNOWN = -101, OUTSIDE = -102, STATE = -103, FULL = -104;

    private static final int INDEX = -12;

    private static final int FIRST_BLOCKS = 8;
    private static final int MOST_BLOCKS = 24;
    private static final int BLOCK_WORDS = 64;
    private static final int MOST_WORDS = MOST_BLOCKS * BLOCK_WORDS;

    // The least cell has two words, so every address is even and a thing's
    // facts are kept under half its address.
    private static final int LEAST_CELL = 2;
    private static final int BLOCK_SLOTS = BLOCK_WORDS / LEAST_CELL;
    private static final int MOST_THINGS = MOST_BLOCKS * BLOCK_SLOTS;

    private static final int LARGE_CLASS = 5;
    private static final int MOST_SIZE = 256;

    private static final int FREE_BLOCK = 0;
    private static final int SMALL_BLOCK = 1;
    private static final int LARGE_BLOCK = 2;
    private static final int BEHIND_BLOCK = 3;

    // In this order, so that "at least YOUNG" means that there is a thing.
    private static final int ABSENT = 0;
    private static final int YOUNG = 1;
    private static final int FOUND = 2;
    private static final int OLD = 3;

    private static final int BY_THINGS = 0;
    private static final int BY_BLOCKS = 1;
    private static final int MOST_LOGGED = 12;

    private static final int ROOTS = 10;
    private static final int MOST_STACKED = 24;

    private static final long DIGEST_START = 43;
    private static final long DIGEST_FACTOR = 31;

    private final Space space;
    private final Memory memory;
    private final Holders holders;
    private final Collector collector;
    private boolean collectsItself;
    private int lastSeen;
    private int made;

    public StickyHeap() {
        space = new Space();
        memory = new Memory();
        holders = new Holders();
        collector = new Collector(space, memory, holders);
        collectsItself = true;
    }

    // ---- the house

    public int open(int b) {
        if (b < 1 || b > MOST_BLOCKS) return OUTSIDE;
        int before = space.things(YOUNG);
        space.reset(b);
        memory.forget();
        holders.reset();
        lastSeen = 0;
        return before;
    }

    public int way(int w) {
        if (w != BY_THINGS && w != BY_BLOCKS) return OUTSIDE;
        if (space.things(YOUNG) > 0) return STATE;
        int before = memory.way;
        memory.way = w;
        return before;
    }

    public int auto(boolean on) {
        int before = flag(collectsItself);
        collectsItself = on;
        return before;
    }

    // ---- things

    public int make(int r, int n) {
        if (!isShape(r, n)) return OUTSIDE;
        int x = placeFor(r + n);
        if (x == NONE) return FULL;
        space.lay(x, r, n);
        made++;
        return x;
    }

    public int put(int x, int i, int y) {
        if (!space.isThing(x) || !isThingOrNone(y)) return UNKNOWN;
        if (!space.hasReference(x, i)) return INDEX;
        space.words[x + i] = y;
        memory.noteWrite(x, i, space.ageOf(x) == OLD);
        return 1;
    }

    public int link(int x, int i) {
        if (!space.isThing(x)) return UNKNOWN;
        if (!space.hasReference(x, i)) return INDEX;
        return space.words[x + i];
    }

    public int set(int x, int i, int v) {
        if (!space.isThing(x)) return UNKNOWN;
        if (!space.hasNumber(x, i)) return INDEX;
        space.words[x + i] = v;
        return 1;
    }

    public int get(int x, int i) {
        if (!space.isThing(x)) return UNKNOWN;
        if (!space.hasNumber(x, i)) return INDEX;
        lastSeen = space.words[x + i];
        return 1;
    }

    public int seen() {
        return lastSeen;
    }

    public int about(int x, int what) {
        if (!space.isThing(x)) return UNKNOWN;
        switch (what) {
            case 0: return space.referencesOf(x);
            case 1: return space.numbersOf(x);
            case 2: return flag(space.ageOf(x) == OLD);
            case 3: return flag(memory.counts(space, x));
            case 4: return wordsFor(space.sizeOf(x));
            case 5: return classFor(space.sizeOf(x));
            default: return OUTSIDE;
        }
    }

    public int points(int w) {
        return space.thingAt(w);
    }

    // ---- roots, the stack

    public int root(int i, int x) {
        if (!isRoot(i) || !isThingOrNone(x)) return UNKNOWN;
        int before = holders.roots[i];
        holders.roots[i] = x;
        return before;
    }

    public int rooted(int i) {
        return isRoot(i) ? holders.roots[i] : UNKNOWN;
    }

    public int push(int w) {
        if (holders.height >= MOST_STACKED) return FULL;
        holders.stack[holders.height] = w;
        holders.height++;
        return holders.height;
    }

    public int pop() {
        if (holders.height <= 0) return STATE;
        holders.height--;
        lastSeen = holders.stack[holders.height];
        return holders.height;
    }

    public int top(int k) {
        if (k < 0 || k >= holders.height) return 0;
        lastSeen = holders.stack[holders.height - 1 - k];
        return 1;
    }

    // ---- collections

    public int minor() {
        return collector.collectYoung();
    }

    public int full() {
        return collector.collectAll();
    }

    public int logged(int k) {
        return k >= 0 && k < memory.size ? memory.log[k] : NONE;
    }

    // ---- what is told

    public int block(int b, int what) {
        if (b < 0 || b >= space.blocks) return UNKNOWN;
        switch (what) {
            case 0: return space.sort[b];
            case 1: return space.detail[b];
            case 2: return space.thingsIn(b, YOUNG);
            case 3: return space.thingsIn(b, OLD);
            case 4: return memory.dirty[b];
            case 5: return space.barred[b];
            default: return OUTSIDE;
        }
    }

    public int room(int c) {
        return c < 0 || c > LARGE_CLASS ? OUTSIDE : space.roomFor(c);
    }

    public int count(int what) {
        switch (what) {
            case 0: return space.blocks;
            case 1: return space.things(YOUNG);
            case 2: return space.things(OLD);
            case 3: return space.freeBlocks();
            case 4: return space.barredBlocks();
            case 5: return thingsInLog();
            case 6: return flag(memory.over);
            case 7: return made;
            case 8: return collector.gone;
            case 9: return collector.minors;
            case 10: return collector.fulls;
            case 11: return collector.lookedAt;
            default: return OUTSIDE;
        }
    }

    public long digest() {
        long h = mix(DIGEST_START, space.blocks);
        for (int x = 0; x < space.limit; x += LEAST_CELL) {
            if (space.isThing(x)) h = mixThing(h, x);
        }
        h = mixRow(h, holders.roots, ROOTS);
        h = mixRow(h, holders.stack, holders.height);
        for (int b = 0; b < space.blocks; b++) {
            h = mix(mix(mix(h, space.sort[b]), memory.dirty[b]), space.barred[b]);
        }
        h = mixRow(h, memory.log, memory.size);
        return mix(h, flag(memory.over));
    }

    // ---- helpers

    private boolean isThingOrNone(int x) {
        return x == NONE || space.isThing(x);
    }

    /** Where a thing of so many words goes, after as many collections as that needs; or NONE. */
    private int placeFor(int size) {
        int x = space.placeFor(size, true);
        if (x == NONE && collectsItself) {
            collector.collectYoung();
            x = space.placeFor(size, true);
        }
        if (x == NONE && collectsItself) {
            collector.collectAll();
            x = space.placeFor(size, true);
        }
        return x == NONE ? space.placeFor(size, false) : x;
    }

    private int thingsInLog() {
        int n = 0;
        for (int x = 0; x < space.limit; x += LEAST_CELL) {
            if (memory.counts(space, x)) n++;
        }
        return n;
    }

    private long mixThing(long h, int x) {
        long g = mix(h, x);
        g = mix(g, space.referencesOf(x));
        g = mix(g, space.numbersOf(x));
        g = mix(g, flag(space.ageOf(x) == OLD));
        int size = space.sizeOf(x);
        for (int i = 0; i < size; i++) {
            g = mix(g, space.words[x + i]);
        }
        return g;
    }

    private static long mixRow(long h, int[] row, int length) {
        long g = h;
        for (int i = 0; i < length && i < row.length; i++) {
            g = mix(g, row[i]);
        }
        return g;
    }

    private static long mix(long h, long number) {
        return DIGEST_FACTOR * h + number;
    }

    private static int flag(boolean yes) {
        return yes ? 1 : 0;
    }

    private static boolean isRoot(int i) {
        return i >= 0 && i < ROOTS;
    }

    /** Each part is held against the bound by itself first, so that their sum cannot wrap. */
    private static boolean isShape(int r, int n) {
        if (r < 0 || n < 0 || r > MOST_SIZE || n > MOST_SIZE) return false;
        return r + n >= 1 && r + n <= MOST_SIZE;
    }

    private static int cellWords(int c) {
        return LEAST_CELL << c;
    }

    private static int cellsOf(int c) {
        return BLOCK_SLOTS >> c;
    }

    private static int classFor(int size) {
        for (int c = 0; c < LARGE_CLASS; c++) {
            if (size <= cellWords(c)) return c;
        }
        return LARGE_CLASS;
    }

    private static int blocksFor(int size) {
        return (size + BLOCK_WORDS - 1) / BLOCK_WORDS;
    }

    private static int wordsFor(int size) {
        int c = classFor(size);
        return c == LARGE_CLASS ? blocksFor(size) * BLOCK_WORDS : cellWords(c);
    }

    /** The blocks, and the things in them. */
    private static final class Space {
        int blocks;
        int limit;
        final int[] sort = new int[MOST_BLOCKS];
        /** A small block's class; of a large thing's first block, how many it has; else 0. */
        final int[] detail = new int[MOST_BLOCKS];
        final int[] barred = new int[MOST_BLOCKS];
        /** References (addresses, or NONE) and numbers, where the things lie. */
        final int[] words = new int[MOST_WORDS];
        final int[] references = new int[MOST_THINGS];
        final int[] numbers = new int[MOST_THINGS];
        final int[] age = new int[MOST_THINGS];

        Space() {
            blocks = FIRST_BLOCKS;
            limit = FIRST_BLOCKS * BLOCK_WORDS;
        }

        void reset(int b) {
            blocks = b;
            limit = b * BLOCK_WORDS;
            for (int k = 0; k < MOST_BLOCKS; k++) {
                turn(k, FREE_BLOCK, 0);
            }
            for (int k = 0; k < MOST_THINGS; k++) {
                age[k] = ABSENT;
            }
        }

        boolean isThing(int x) {
            return x >= 0 && x < limit && x % LEAST_CELL == 0 && age[x / LEAST_CELL] != ABSENT;
        }

        int ageOf(int x) {
            return isThing(x) ? age[x / LEAST_CELL] : ABSENT;
        }

        int referencesOf(int x) {
            return isThing(x) ? references[x / LEAST_CELL] : 0;
        }

        int numbersOf(int x) {
            return isThing(x) ? numbers[x / LEAST_CELL] : 0;
        }

        int sizeOf(int x) {
            return referencesOf(x) + numbersOf(x);
        }

        boolean hasReference(int x, int i) {
            return i >= 0 && i < referencesOf(x);
        }

        boolean hasNumber(int x, int i) {
            return i >= referencesOf(x) && i < sizeOf(x);
        }

        /** The thing whose cell or blocks have this word, or NONE. */
        int thingAt(int w) {
            if (w < 0 || w >= limit) return NONE;
            int b = w / BLOCK_WORDS;
            // Cells are powers of two and lie at their multiples: a mask finds their first word.
            int x = sort[b] == SMALL_BLOCK ? w & -cellWords(detail[b]) : firstBlock(b) * BLOCK_WORDS;
            return isThing(x) ? x : NONE;
        }

        int firstBlock(int b) {
            for (int k = b; k > 0; k--) {
                if (sort[k] != BEHIND_BLOCK) return k;
            }
            return 0;
        }

        int placeFor(int size, boolean mindBarred) {
            int c = classFor(size);
            if (c == LARGE_CLASS) return freeRow(blocksFor(size), mindBarred);
            int x = freeCell(c);
            return x == NONE ? freeRow(1, mindBarred) : x;
        }

        int freeCell(int c) {
            for (int b = 0; b < blocks; b++) {
                if (sort[b] != SMALL_BLOCK || detail[b] != c) continue;
                for (int k = 0; k < cellsOf(c); k++) {
                    int x = b * BLOCK_WORDS + k * cellWords(c);
                    if (!isThing(x)) return x;
                }
            }
            return NONE;
        }

        int freeRow(int length, boolean mindBarred) {
            int run = 0;
            for (int b = 0; b < blocks; b++) {
                boolean fits = sort[b] == FREE_BLOCK && !(mindBarred && barred[b] == 1);
                run = fits ? run + 1 : 0;
                if (run == length) return (b - length + 1) * BLOCK_WORDS;
            }
            return NONE;
        }

        /** Lays a young thing at a place that placeFor found for it. */
        void lay(int x, int r, int n) {
            int b = x / BLOCK_WORDS;
            if (sort[b] == FREE_BLOCK) take(b, r + n);
            references[x / LEAST_CELL] = r;
            numbers[x / LEAST_CELL] = n;
            age[x / LEAST_CELL] = YOUNG;
            for (int i = 0; i < r + n; i++) {
                words[x + i] = i < r ? NONE : 0;
            }
        }

        void take(int b, int size) {
            int c = classFor(size);
            if (c != LARGE_CLASS) {
                turn(b, SMALL_BLOCK, c);
                return;
            }
            int length = blocksFor(size);
            turn(b, LARGE_BLOCK, length);
            for (int k = 1; k < length; k++) {
                turn(b + k, BEHIND_BLOCK, 0);
            }
        }

        void turn(int b, int toSort, int toDetail) {
            sort[b] = toSort;
            detail[b] = toDetail;
            barred[b] = 0;
        }

        void makeAllYoung() {
            for (int k = 0; k < MOST_THINGS; k++) {
                if (age[k] == OLD) age[k] = YOUNG;
            }
        }

        /** Those found become old, the other young ones go: how many went. */
        int sweep() {
            int gone = 0;
            for (int k = 0; k < MOST_THINGS; k++) {
                if (age[k] == FOUND) {
                    age[k] = OLD;
                } else if (age[k] == YOUNG) {
                    age[k] = ABSENT;
                    gone++;
                }
            }
            return gone;
        }

        void freeEmptyBlocks() {
            for (int b = 0; b < blocks; b++) {
                // A block behind holds no address of its own: it goes as the one ahead of it went.
                boolean behind = b > 0 && sort[b] == BEHIND_BLOCK;
                boolean empty = behind ? sort[b - 1] == FREE_BLOCK : thingsIn(b, YOUNG) == 0;
                if (empty) turn(b, FREE_BLOCK, 0);
            }
        }

        /** Bars the free blocks that one of these ints lies in, and no others. */
        void barBy(int[] ints, int length) {
            for (int b = 0; b < blocks; b++) {
                barred[b] = 0;
            }
            for (int k = 0; k < length && k < ints.length; k++) {
                int w = ints[k];
                if (w < 0 || w >= limit) continue;
                if (sort[w / BLOCK_WORDS] == FREE_BLOCK) barred[w / BLOCK_WORDS] = 1;
            }
        }

        int thingsIn(int b, int leastAge) {
            int n = 0;
            for (int k = 0; k < BLOCK_SLOTS; k++) {
                if (age[b * BLOCK_SLOTS + k] >= leastAge) n++;
            }
            return n;
        }

        int things(int leastAge) {
            int n = 0;
            for (int b = 0; b < blocks; b++) {
                n += thingsIn(b, leastAge);
            }
            return n;
        }

        int freeBlocks() {
            int n = 0;
            for (int b = 0; b < blocks; b++) {
                if (sort[b] == FREE_BLOCK) n++;
            }
            return n;
        }

        int barredBlocks() {
            int n = 0;
            for (int b = 0; b < blocks; b++) {
                n += barred[b];
            }
            return n;
        }

        int roomFor(int c) {
            if (c == LARGE_CLASS) return freeBlocks();
            int n = freeBlocks() * cellsOf(c);
            for (int b = 0; b < blocks; b++) {
                if (sort[b] == SMALL_BLOCK && detail[b] == c) n += cellsOf(c) - thingsIn(b, YOUNG);
            }
            return n;
        }
    }

    /** What was written since the last collection: the log of things, or the dirty blocks. */
    private static final class Memory {
        int way = BY_THINGS;
        final int[] log = new int[MOST_LOGGED];
        int size;
        boolean over;
        final int[] dirty = new int[MOST_BLOCKS];

        void forget() {
            size = 0;
            over = false;
            for (int b = 0; b < MOST_BLOCKS; b++) {
                dirty[b] = 0;
            }
        }

        void noteWrite(int x, int i, boolean old) {
            if (way == BY_BLOCKS) {
                dirty[(x + i) / BLOCK_WORDS] = 1;
            } else if (old && !over && !inLog(x)) {
                enter(x);
            }
        }

        void enter(int x) {
            if (size >= MOST_LOGGED) {
                over = true;
                return;
            }
            log[size] = x;
            size++;
        }

        boolean inLog(int x) {
            for (int k = 0; k < size; k++) {
                if (log[k] == x) return true;
            }
            return false;
        }

        /** Whether this is an old thing that is in the log, or counts so. */
        boolean counts(Space space, int x) {
            if (space.ageOf(x) != OLD) return false;
            if (way == BY_BLOCKS) return touchesDirty(x, space.referencesOf(x));
            return over || inLog(x);
        }

        boolean touchesDirty(int x, int r) {
            for (int i = 0; i < r; i++) {
                if (dirty[(x + i) / BLOCK_WORDS] == 1) return true;
            }
            return false;
        }
    }

    /** The roots and the stack. */
    private static final class Holders {
        final int[] roots = new int[ROOTS];
        final int[] stack = new int[MOST_STACKED];
        int height;

        Holders() {
            reset();
        }

        void reset() {
            for (int i = 0; i < ROOTS; i++) {
                roots[i] = NONE;
            }
            height = 0;
        }
    }

    /** Finds what stays, lets the rest go, and counts what it did. */
    private static final class Collector {
        final Space space;
        final Memory memory;
        final Holders holders;
        /** What this collection has found, in the order in which its references are looked at. */
        final int[] found = new int[MOST_THINGS];
        int foundCount;
        int gone;
        int minors;
        int fulls;
        int lookedAt;

        Collector(Space space, Memory memory, Holders holders) {
            this.space = space;
            this.memory = memory;
            this.holders = holders;
        }

        int collectYoung() {
            minors++;
            foundCount = 0;
            findHeld();
            findRemembered();
            findReferred();
            return end();
        }

        int collectAll() {
            fulls++;
            foundCount = 0;
            space.makeAllYoung();
            findHeld();
            findReferred();
            return end();
        }

        void findHeld() {
            for (int i = 0; i < ROOTS; i++) {
                find(holders.roots[i]);
            }
            for (int k = 0; k < holders.height; k++) {
                find(space.thingAt(holders.stack[k]));
            }
        }

        void findRemembered() {
            for (int x = 0; x < space.limit; x += LEAST_CELL) {
                if (memory.counts(space, x)) lookAt(x);
            }
        }

        /** The row of those found grows while it is gone through. */
        void findReferred() {
            for (int k = 0; k < foundCount && k < MOST_THINGS; k++) {
                lookAt(found[k]);
            }
        }

        void lookAt(int x) {
            int r = space.referencesOf(x);
            for (int i = 0; i < r; i++) {
                find(space.words[x + i]);
            }
            lookedAt += r;
        }

        /** They stay FOUND, not OLD, until the end: those in the log are told by their being OLD. */
        void find(int x) {
            if (!space.isThing(x) || space.age[x / LEAST_CELL] != YOUNG) return;
            if (foundCount >= MOST_THINGS) return;
            space.age[x / LEAST_CELL] = FOUND;
            found[foundCount] = x;
            foundCount++;
        }

        int end() {
            int went = space.sweep();
            gone += went;
            memory.forget();
            space.freeEmptyBlocks();
            space.barBy(holders.stack, holders.height);
            return went;
        }
    }
}
