import java.util.ArrayList;
import java.util.HashSet;
import java.util.List;
import java.util.Set;
import java.util.TreeMap;

/**
 * The document a second time, written with objects and sets and no thought of
 * speed, so that ModelTest can hold StickyHeap against it.
 */
final class Model {
    private static final int NONE = -1, UNKNOWN = -101, OUTSIDE = -102, STATE = -103, FULL = -104, INDEX = -12;

    private static final class Thing {
        int at;
        int words;
        Thing[] refs;
        int[] nums;
        boolean old;

        int size() {
            return refs.length + nums.length;
        }

        boolean large() {
            return size() > 32;
        }
    }

    private int blocks = 8;
    private TreeMap<Integer, Thing> things = new TreeMap<>();
    /** The cell size of each small block. */
    private TreeMap<Integer, Integer> small = new TreeMap<>();
    private Set<Integer> dirty = new HashSet<>();
    private Set<Integer> barred = new HashSet<>();
    private List<Thing> log = new ArrayList<>();
    private boolean over = false;
    private Thing[] roots = new Thing[10];
    private List<Integer> stack = new ArrayList<>();
    private int seen = 0;
    private boolean auto = true;
    private int way = 0;
    private int made, gone, minors, fulls, looked;

    int open(int b) {
        if (b < 1 || b > 24) return OUTSIDE;
        int before = things.size();
        blocks = b;
        things = new TreeMap<>();
        small = new TreeMap<>();
        dirty = new HashSet<>();
        barred = new HashSet<>();
        log = new ArrayList<>();
        over = false;
        roots = new Thing[10];
        stack = new ArrayList<>();
        seen = 0;
        return before;
    }

    int way(int w) {
        if (w < 0 || w > 1) return OUTSIDE;
        if (!things.isEmpty()) return STATE;
        int before = way;
        way = w;
        return before;
    }

    int auto(boolean on) {
        int before = auto ? 1 : 0;
        auto = on;
        return before;
    }

    int make(int r, int n) {
        if (r < 0 || n < 0 || (long) r + n < 1 || (long) r + n > 256) return OUTSIDE;
        Thing t = new Thing();
        t.refs = new Thing[r];
        t.nums = new int[n];
        boolean placed = place(t, barred);
        if (!placed && auto) {
            minor();
            placed = place(t, barred);
        }
        if (!placed && auto) {
            full();
            placed = place(t, barred);
        }
        if (!placed) placed = place(t, new HashSet<>());
        if (!placed) return FULL;
        made++;
        return t.at;
    }

    private static int cellFor(int size) {
        int cell = 2;
        while (cell < size) cell *= 2;
        return cell;
    }

    private boolean place(Thing t, Set<Integer> shut) {
        if (t.large()) {
            int need = t.size() / 64 + (t.size() % 64 == 0 ? 0 : 1);
            for (int b = 0; b + need <= blocks; b++) {
                boolean fits = true;
                for (int k = b; k < b + need; k++) fits &= sort(k) == 0 && !shut.contains(k);
                if (!fits) continue;
                for (int k = b; k < b + need; k++) barred.remove(k);
                lay(t, 64 * b, 64 * need);
                return true;
            }
            return false;
        }
        int cell = cellFor(t.size());
        for (int w = 0; w < 64 * blocks; w += cell) {
            if (small.getOrDefault(w / 64, 0) == cell && !things.containsKey(w)) {
                lay(t, w, cell);
                return true;
            }
        }
        for (int b = 0; b < blocks; b++) {
            if (sort(b) != 0 || shut.contains(b)) continue;
            small.put(b, cell);
            barred.remove(b);
            lay(t, 64 * b, cell);
            return true;
        }
        return false;
    }

    private void lay(Thing t, int at, int words) {
        t.at = at;
        t.words = words;
        things.put(at, t);
    }

    private Thing covering(int w) {
        for (Thing t : things.values()) if (w >= t.at && w < t.at + t.words) return t;
        return null;
    }

    private int sort(int b) {
        if (small.containsKey(b)) return 1;
        Thing t = covering(64 * b);
        return t == null ? 0 : t.at == 64 * b ? 2 : 3;
    }

    private static int address(Thing t) {
        return t == null ? NONE : t.at;
    }

    int put(int x, int i, int y) {
        Thing t = things.get(x);
        if (t == null) return UNKNOWN;
        if (y != NONE && !things.containsKey(y)) return UNKNOWN;
        if (i < 0 || i >= t.refs.length) return INDEX;
        t.refs[i] = things.get(y);
        if (way == 1) dirty.add((t.at + i) / 64);
        else if (t.old && !over && !log.contains(t)) {
            if (log.size() == 12) over = true;
            else log.add(t);
        }
        return 1;
    }

    int link(int x, int i) {
        Thing t = things.get(x);
        if (t == null) return UNKNOWN;
        return i < 0 || i >= t.refs.length ? INDEX : address(t.refs[i]);
    }

    int set(int x, int i, int v) {
        Thing t = things.get(x);
        if (t == null) return UNKNOWN;
        if (i < t.refs.length || i >= t.size()) return INDEX;
        t.nums[i - t.refs.length] = v;
        return 1;
    }

    int get(int x, int i) {
        Thing t = things.get(x);
        if (t == null) return UNKNOWN;
        if (i < t.refs.length || i >= t.size()) return INDEX;
        seen = t.nums[i - t.refs.length];
        return 1;
    }

    int seen() {
        return seen;
    }

    private boolean remembered(Thing t) {
        if (!t.old) return false;
        if (way == 0) return over || log.contains(t);
        boolean any = false;
        for (int i = 0; i < t.refs.length; i++) any |= dirty.contains((t.at + i) / 64);
        return any;
    }

    int about(int x, int what) {
        Thing t = things.get(x);
        if (t == null) return UNKNOWN;
        if (what < 0 || what > 5) return OUTSIDE;
        int[] told = {t.refs.length, t.nums.length, t.old ? 1 : 0, remembered(t) ? 1 : 0, t.words, 5};
        if (what == 5 && !t.large()) return List.of(2, 4, 8, 16, 32).indexOf(t.words);
        return told[what];
    }

    int points(int w) {
        return address(covering(w));
    }

    int root(int i, int x) {
        if (i < 0 || i > 9) return UNKNOWN;
        if (x != NONE && !things.containsKey(x)) return UNKNOWN;
        int before = address(roots[i]);
        roots[i] = things.get(x);
        return before;
    }

    int rooted(int i) {
        return i < 0 || i > 9 ? UNKNOWN : address(roots[i]);
    }

    int push(int w) {
        if (stack.size() == 24) return FULL;
        stack.add(w);
        return stack.size();
    }

    int pop() {
        if (stack.isEmpty()) return STATE;
        seen = stack.remove(stack.size() - 1);
        return stack.size();
    }

    int top(int k) {
        if (k < 0 || k >= stack.size()) return 0;
        seen = stack.get(stack.size() - 1 - k);
        return 1;
    }

    int minor() {
        minors++;
        List<Thing> logs = new ArrayList<>();
        for (Thing t : things.values()) if (remembered(t)) logs.add(t);
        return collect(logs);
    }

    int full() {
        fulls++;
        for (Thing t : things.values()) t.old = false;
        return collect(new ArrayList<>());
    }

    private int collect(List<Thing> logs) {
        Set<Thing> reached = new HashSet<>();
        for (Thing t : roots) reached.add(t);
        for (int w : stack) reached.add(covering(w));
        for (Thing t : logs) for (Thing y : t.refs) reached.add(y);
        Set<Thing> found = new HashSet<>();
        for (boolean more = true; more; ) {
            more = false;
            for (Thing t : things.values()) {
                if (t.old || found.contains(t) || !reached.contains(t)) continue;
                found.add(t);
                for (Thing y : t.refs) reached.add(y);
                more = true;
            }
        }
        for (Thing t : logs) looked += t.refs.length;
        for (Thing t : found) looked += t.refs.length;
        int before = things.size();
        things.values().removeIf(t -> !t.old && !found.contains(t));
        for (Thing t : found) t.old = true;
        log.clear();
        over = false;
        dirty.clear();
        small.keySet().removeIf(b -> things.subMap(64 * b, 64 * b + 64).isEmpty());
        barred.clear();
        for (int w : stack) if (w >= 0 && w < 64 * blocks && sort(w / 64) == 0) barred.add(w / 64);
        gone += before - things.size();
        return before - things.size();
    }

    int logged(int k) {
        return k < 0 || k >= log.size() ? NONE : log.get(k).at;
    }

    int block(int b, int what) {
        if (b < 0 || b >= blocks) return UNKNOWN;
        int used = 0, old = 0;
        for (Thing t : things.subMap(64 * b, 64 * b + 64).values()) {
            used++;
            if (t.old) old++;
        }
        switch (what) {
            case 0: return sort(b);
            case 1:
                if (sort(b) == 1) return List.of(2, 4, 8, 16, 32).indexOf(small.get(b));
                return sort(b) == 2 ? things.get(64 * b).words / 64 : 0;
            case 2: return used;
            case 3: return old;
            case 4: return dirty.contains(b) ? 1 : 0;
            case 5: return barred.contains(b) ? 1 : 0;
            default: return OUTSIDE;
        }
    }

    /** Makes such things one behind the other in a heap that is laid out alike, until there is no room. */
    int room(int c) {
        if (c < 0 || c > 5) return OUTSIDE;
        Model trial = new Model();
        trial.blocks = blocks;
        trial.auto = false;
        trial.things = new TreeMap<>(things);
        trial.small = new TreeMap<>(small);
        int size = new int[] {1, 3, 5, 9, 17, 33}[c];
        int n = 0;
        while (trial.make(0, size) >= 0) n++;
        return n;
    }

    int count(int what) {
        int old = 0, free = 0, inLog = 0;
        for (Thing t : things.values()) {
            if (t.old) old++;
            if (remembered(t)) inLog++;
        }
        for (int b = 0; b < blocks; b++) if (sort(b) == 0) free++;
        int[] told = {blocks, things.size(), old, free, barred.size(), inLog, over ? 1 : 0,
            made, gone, minors, fulls, looked};
        return what < 0 || what >= told.length ? OUTSIDE : told[what];
    }

    long digest() {
        List<Integer> row = new ArrayList<>();
        row.add(blocks);
        for (Thing t : things.values()) {
            row.addAll(List.of(t.at, t.refs.length, t.nums.length, t.old ? 1 : 0));
            for (Thing y : t.refs) row.add(address(y));
            for (int v : t.nums) row.add(v);
        }
        for (Thing t : roots) row.add(address(t));
        row.addAll(stack);
        for (int b = 0; b < blocks; b++) {
            row.addAll(List.of(sort(b), dirty.contains(b) ? 1 : 0, barred.contains(b) ? 1 : 0));
        }
        for (Thing t : log) row.add(t.at);
        row.add(over ? 1 : 0);
        long h = 43;
        for (int v : row) h = 31 * h + v;
        return h;
    }

    /** Addresses of all things, for a test that wants to choose one. */
    List<Integer> addresses() {
        return new ArrayList<>(things.keySet());
    }

    /** Addresses of the old things, for a test that wants to write into one. */
    List<Integer> oldAddresses() {
        List<Integer> row = new ArrayList<>();
        for (Thing t : things.values()) if (t.old) row.add(t.at);
        return row;
    }
}
