import java.util.ArrayList;
import java.util.List;

/** Every call with every edge, in many states: none throws, and what is refused changes nothing. */
public final class ExtremesTest {
    private static final Due due = new Due("ExtremesTest");
    private static final int[] EDGES = {Integer.MIN_VALUE, Integer.MIN_VALUE + 1, -257, -64, -2, -1, 0, 1, 2, 9, 10, 11,
        12, 23, 24, 25, 63, 64, 65, 255, 256, 257, 511, 512, 1535, 1536, Integer.MAX_VALUE - 1, Integer.MAX_VALUE};
    private static final int KINDS = 21;
    /** A state takes up to 165 calls, a row 29; an object has but 512. */
    private static final int ROWS_OF_ONE = 11;

    private static int call(StickyHeap h, int kind, int a, int b, int c) {
        switch (kind) {
            case 0: return h.open(a);
            case 1: return h.way(a);
            case 2: return h.put(a, b, c);
            case 3: return h.link(a, b);
            case 4: return h.set(a, b, c);
            case 5: return h.get(a, b);
            case 6: return h.about(a, b);
            case 7: return h.points(a);
            case 8: return h.root(a, b);
            case 9: return h.rooted(a);
            case 10: return h.push(a);
            case 11: return h.pop();
            case 12: return h.top(a);
            case 13: return h.minor();
            case 14: return h.full();
            case 15: return h.logged(a);
            case 16: return h.block(a, b);
            case 17: return h.room(a);
            case 18: return h.count(a);
            case 19: return h.seen();
            default: return h.make(a, b);
        }
    }

    /** New objects in the states that a test wants to meet. */
    private static StickyHeap state(int s) {
        StickyHeap h = new StickyHeap();
        if (s % 2 == 1) h.way(1);
        h.open(s < 2 ? 1 : s < 4 ? 24 : 3);
        h.auto(s % 3 != 0);
        if (s < 2) return h;
        for (int k = 0; k < 24; k++) h.push(EDGES[k]);
        for (int k = 0; k < 20; k++) h.root(k % 10, h.make(1 + k % 3, k));
        if (s < 6) h.minor();
        for (int x = 0; x < 192; x += 2) h.put(x, 0, 0);
        return h;
    }

    private static final int STATES = 8;

    private static boolean refused(int answer, int kind) {
        boolean plain = kind == 7 || kind == 9 || kind == 15 || kind == 19 || kind == 3;
        return !plain && (answer <= -101 && answer >= -104 || answer == -12);
    }

    private static List<int[]> arguments() {
        List<int[]> rows = new ArrayList<>();
        for (int a : EDGES) for (int b : EDGES) rows.add(new int[] {a, b, EDGES[Math.floorMod(a + b, EDGES.length)]});
        return rows;
    }

    public static void main(String[] args) {
        List<int[]> rows = arguments();
        for (int s = 0; s < STATES; s++) {
            for (int kind = 0; kind < KINDS; kind++) {
                StickyHeap h = state(s);
                int used = 0;
                for (int[] row : rows) {
                    if (++used % ROWS_OF_ONE == 0) h = state(s);
                    String before = Told.of(h);
                    int answer = call(h, kind, row[0], row[1], row[2]);
                    if (!refused(answer, kind) || kind == KINDS - 1 && answer == StickyHeap.FULL) continue;
                    due.same("a refused call of kind " + kind, Told.of(h), before);
                }
            }
        }
        due.end();
    }
}
