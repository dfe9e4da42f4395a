import java.util.List;
import java.util.TreeMap;

/** Holds every answer of many made-up runs, and the digest behind each call, against the Model. */
public final class ModelTest {
    private static final int RUNS = 4000;
    /** An object is used for 512 calls; each step here is one or two, seen() and digest(). */
    private static final int STEPS = 110;
    private static final int[] EDGES = {Integer.MIN_VALUE, -65, -2, -1, 0, 1, 63, 64, 65, 511, 512, 1535, 1536,
        Integer.MAX_VALUE};

    private static final Due due = new Due("ModelTest");
    /** What the runs came through, so that a run of runs that tests too little is seen. */
    private static final TreeMap<String, Integer> met = new TreeMap<>();

    private long state;
    private final StickyHeap heap = new StickyHeap();
    private final Model model = new Model();
    private final int sizes;
    private final int blocks;
    /** Of ten makings, so many are linked at once to what stays; and whether the stack fills up. */
    private final int kept;
    private final boolean stacks;
    /** Whether, once many things are old, they are written of and made no more for a while. */
    private final boolean writes;

    private ModelTest(int run) {
        state = run * 0x9E3779B97F4A7C15L + 1;
        sizes = below(4);
        blocks = 1 + below(below(3) == 0 ? 24 : 6);
        kept = below(11);
        stacks = below(8) == 0;
        writes = below(3) == 0;
    }

    private int below(int bound) {
        state = state * 6364136223846793005L + 1442695040888963407L;
        return (int) ((state >>> 33) % bound);
    }

    private int edge() {
        return EDGES[below(EDGES.length)];
    }

    private static int from(List<Integer> row, int pick, int instead) {
        return row.isEmpty() ? instead : row.get(pick % row.size());
    }

    private int thing() {
        if (below(25) == 0) return edge();
        List<Integer> row = below(2) == 0 ? model.oldAddresses() : model.addresses();
        return from(row, below(1 << 20), below(64 * blocks));
    }

    private int thingOrNone() {
        return below(5) == 0 ? StickyHeap.NONE : thing();
    }

    private int word() {
        return below(12) == 0 ? edge() : below(64 * blocks);
    }

    private int size() {
        switch (sizes) {
            case 0: return 1 + below(2);
            case 1: return 1 + below(8);
            case 2: return 1 + below(70);
            default: return below(4) == 0 ? 1 + below(256) : 1 + below(32);
        }
    }

    private int index(int x) {
        int r = Math.max(0, model.about(x, 0));
        int n = Math.max(0, model.about(x, 1));
        return below(12) == 0 ? edge() : below(r + n + 1);
    }

    private int reference(int x) {
        int r = model.about(x, 0);
        return r > 0 && below(12) != 0 ? below(r) : index(x);
    }

    private int number(int x) {
        int n = model.about(x, 1);
        return n > 0 && below(12) != 0 ? model.about(x, 0) + below(n) : index(x);
    }

    private void tell(String call, long got, long want) {
        due.is(call, got, want);
        String name = call.substring(0, call.indexOf('('));
        if (want <= -12) met.merge(name + " " + want, 1, Integer::sum);
    }

    private void makeOne() {
        int size = size();
        int r = below(3) == 0 ? below(size + 1) : Math.min(size, 1 + below(3));
        int n = size - r;
        if (below(40) == 0) {
            r = edge();
            n = edge();
        }
        int made = model.make(r, n);
        tell("make(" + r + ", " + n + ")", heap.make(r, n), made);
        if (made >= 0 && below(10) < kept) keep(made);
    }

    /** A root, or a reference of some thing, becomes it. */
    private void keep(int made) {
        int x = thing();
        int i = reference(x);
        if (below(4) == 0 || model.link(x, i) != StickyHeap.NONE) {
            i = below(10);
            tell("root(" + i + ", " + made + ")", heap.root(i, made), model.root(i, made));
        } else {
            tell("put(" + x + ", " + i + ", " + made + ")", heap.put(x, i, made), model.put(x, i, made));
        }
    }

    private void work() {
        int x = thing(), y = thingOrNone(), w = word();
        int kind = stacks && below(4) == 0 ? 70 : below(100);
        if (writes && model.count(2) > 12 && below(8) != 0) kind = 26 + below(26);
        if (kind < 26) makeOne();
        else if (kind < 52) {
            int i = reference(x);
            tell("put(" + x + ", " + i + ", " + y + ")", heap.put(x, i, y), model.put(x, i, y));
        } else if (kind < 57) {
            int i = number(x);
            tell("set(" + x + ", " + i + ", " + w + ")", heap.set(x, i, w), model.set(x, i, w));
        } else if (kind < 61) {
            int i = number(x);
            tell("get(" + x + ", " + i + ")", heap.get(x, i), model.get(x, i));
        } else if (kind < 63) {
            int i = reference(x);
            tell("link(" + x + ", " + i + ")", heap.link(x, i), model.link(x, i));
        } else if (kind < 69) {
            int i = below(20) == 0 ? edge() : below(11);
            tell("root(" + i + ", " + y + ")", heap.root(i, y), model.root(i, y));
        } else if (kind < 74) tell("push(" + w + ")", heap.push(w), model.push(w));
        else if (kind < 78 && !stacks) tell("pop()", heap.pop(), model.pop());
        else if (kind < 80) tell("minor()", heap.minor(), model.minor());
        else if (kind < 81) tell("full()", heap.full(), model.full());
        else if (kind < 98) look(x, w);
        else change();
    }

    private void change() {
        int b = below(3) == 0 ? edge() : blocks;
        int w = below(4) == 0 ? edge() : below(2);
        boolean on = below(3) != 0;
        switch (below(8)) {
            case 0: tell("open(" + b + ")", heap.open(b), model.open(b)); break;
            case 1: case 2: case 3: tell("auto(" + on + ")", heap.auto(on), model.auto(on)); break;
            default: tell("way(" + w + ")", heap.way(w), model.way(w));
        }
    }

    private void look(int x, int w) {
        int what = below(30) == 0 ? edge() : below(12);
        int k = below(10) == 0 ? edge() : below(13);
        int b = below(10) == 0 ? edge() : below(blocks + 1);
        switch (below(9)) {
            case 0: case 1: tell("about(" + x + ", " + what / 2 + ")", heap.about(x, what / 2), model.about(x, what / 2)); break;
            case 2: tell("points(" + w + ")", heap.points(w), model.points(w)); break;
            case 3: tell("rooted(" + k + ")", heap.rooted(k), model.rooted(k)); break;
            case 4: tell("top(" + k + ")", heap.top(k), model.top(k)); break;
            case 5: tell("logged(" + k + ")", heap.logged(k), model.logged(k)); break;
            case 6: tell("block(" + b + ", " + what / 2 + ")", heap.block(b, what / 2), model.block(b, what / 2)); break;
            case 7: tell("room(" + what / 2 + ")", heap.room(what / 2), model.room(what / 2)); break;
            default: tell("count(" + what + ")", heap.count(what), model.count(what));
        }
    }

    private void meet(String what, boolean yes) {
        if (yes) met.merge(what, 1, Integer::sum);
    }

    /** A chain of old things, more than the log can hold. */
    private void crop() {
        for (int k = 0; k < 16; k++) {
            int made = model.make(1, 1);
            tell("make(1, 1)", heap.make(1, 1), made);
            int next = model.rooted(0);
            tell("put(" + made + ", 0, " + next + ")", heap.put(made, 0, next), model.put(made, 0, next));
            tell("root(0, " + made + ")", heap.root(0, made), model.root(0, made));
        }
        tell("minor()", heap.minor(), model.minor());
    }

    private void run() {
        int w = below(2);
        tell("way(" + w + ")", heap.way(w), model.way(w));
        if (below(4) != 0) tell("open(" + blocks + ")", heap.open(blocks), model.open(blocks));
        if (writes) crop();
        for (int k = 0; k < STEPS && due.wrong() == 0; k++) {
            work();
            tell("seen()", heap.seen(), model.seen());
            due.is("digest()", heap.digest(), model.digest());
            meet("log over", model.count(6) == 1);
            meet("barred", model.count(4) > 0);
            meet("old", model.count(2) > 0);
            meet("remembered", model.count(5) > 0);
        }
        for (int what = 0; what < 12; what++) tell("count(" + what + ")", heap.count(what), model.count(what));
    }

    public static void main(String[] args) {
        for (int run = 1; run <= RUNS && due.wrong() == 0; run++) {
            new ModelTest(run).run();
            if (due.wrong() > 0) System.out.println("in run " + run);
        }
        System.out.println("met: " + met);
        for (String must : List.of("log over", "barred", "old", "remembered", "make -104", "make -102", "put -101",
            "put -12", "link -12", "set -12", "get -12", "root -101", "push -104", "pop -103", "way -103", "way -102",
            "open -102", "about -101", "block -101", "block -102", "room -102", "count -102")) {
            due.holds("the runs came through: " + must, met.containsKey(must));
        }
        due.end();
    }
}
