/** Part 5 of the Terms: what is refused, which of several refusals is told, and that it changes nothing. */
public final class RefusalEdgesTest {
    private static final Due due = new Due("RefusalEdgesTest");

    /** A call that must be refused. */
    private interface Call {
        int on(StickyHeap h);
    }

    /** A heap in which everything that could be changed by mistake is something: an old thing at 0, a young one at 64. */
    private static StickyHeap busy(int way) {
        StickyHeap h = Told.heap(3);
        h.way(way);
        h.root(0, h.make(2, 1));
        h.set(0, 2, 5);
        for (int k = 0; k < 24; k++) h.push(130);
        h.minor();
        h.make(1, 2 + 60);
        h.put(0, 0, 64);
        h.get(0, 2);
        return h;
    }

    private static void refused(String call, int want, Call c) {
        for (int way = 0; way < 2; way++) {
            StickyHeap h = busy(way);
            h.auto(way == 0);
            String before = Told.of(h);
            due.is(call, c.on(h), want);
            due.same(call, Told.of(h), before);
            due.is("AUTO behind " + call, h.auto(true), way == 0 ? 1 : 0);
            h.open(1);
            due.is("the WAY behind " + call, h.way(0), way);
        }
    }

    private static void index() {
        due.sentence("INDEX is answered as -12: a THING has no such REFERENCE, NUMBER");
        refused("put(0, 2, 0)", -12, h -> h.put(0, 2, 0));
        refused("put(0, -1, 0)", -12, h -> h.put(0, -1, 0));
        refused("put(64, 1, NONE)", -12, h -> h.put(64, 1, -1));
        refused("link(0, 2)", -12, h -> h.link(0, 2));
        refused("link(0, -1)", -12, h -> h.link(0, -1));
        refused("set(0, 1, 9)", -12, h -> h.set(0, 1, 9));
        refused("set(0, 3, 9)", -12, h -> h.set(0, 3, 9));
        refused("get(0, 1)", -12, h -> h.get(0, 1));
        refused("get(0, 3)", -12, h -> h.get(0, 3));
    }

    private static void unknown() {
        due.sentence("UNKNOWN (no THING has this ADDRESS; no such ROOT, BLOCK)");
        refused("put(4, 0, 0)", -101, h -> h.put(4, 0, 0));
        refused("put(0, 0, 4)", -101, h -> h.put(0, 0, 4));
        refused("put(NONE, 0, 0)", -101, h -> h.put(-1, 0, 0));
        refused("link(65, 0)", -101, h -> h.link(65, 0));
        refused("set(1, 1, 1)", -101, h -> h.set(1, 1, 1));
        refused("get(127, 1)", -101, h -> h.get(127, 1));
        refused("about(128, 0)", -101, h -> h.about(128, 0));
        refused("root(10, 0)", -101, h -> h.root(10, 0));
        refused("root(-1, NONE)", -101, h -> h.root(-1, -1));
        refused("root(0, 1)", -101, h -> h.root(0, 1));
        refused("rooted(10)", -101, h -> h.rooted(10));
        refused("block(3, 0)", -101, h -> h.block(3, 0));
        refused("block(-1, 0)", -101, h -> h.block(-1, 0));
    }

    private static void outside() {
        due.sentence("OUTSIDE (a number is not as told)");
        refused("open(0)", -102, h -> h.open(0));
        refused("open(25)", -102, h -> h.open(25));
        refused("way(-1)", -102, h -> h.way(-1));
        refused("way(2)", -102, h -> h.way(2));
        refused("make(0, 0)", -102, h -> h.make(0, 0));
        refused("make(-1, 2)", -102, h -> h.make(-1, 2));
        refused("make(128, 129)", -102, h -> h.make(128, 129));
        refused("about(0, 6)", -102, h -> h.about(0, 6));
        refused("about(0, -1)", -102, h -> h.about(0, -1));
        refused("block(0, 6)", -102, h -> h.block(0, 6));
        refused("block(0, -1)", -102, h -> h.block(0, -1));
        refused("room(6)", -102, h -> h.room(6));
        refused("room(-1)", -102, h -> h.room(-1));
        refused("count(12)", -102, h -> h.count(12));
        refused("count(-1)", -102, h -> h.count(-1));
    }

    private static void stateAndFull() {
        due.sentence("STATE, FULL");
        refused("way(0) with things", -103, h -> h.way(0));
        refused("way(1) with things", -103, h -> h.way(1));
        refused("push() of a 25th", -104, h -> h.push(7));
        StickyHeap h = Told.heap(1);
        String before = Told.of(h);
        due.is("pop() of none", h.pop(), -103);
        due.same("pop() of none", Told.of(h), before);
    }

    private static void severalAtOnce() {
        due.sentence("Of several the first as a call tells them");
        refused("put: y UNKNOWN, INDEX", -101, h -> h.put(0, 9, 1));
        refused("put: x UNKNOWN, y UNKNOWN, INDEX", -101, h -> h.put(1, 9, 1));
        refused("link: UNKNOWN, INDEX", -101, h -> h.link(1, -1));
        refused("set: UNKNOWN, INDEX", -101, h -> h.set(1, -1, 0));
        refused("get: UNKNOWN, INDEX", -101, h -> h.get(1, -1));
        refused("about: UNKNOWN, OUTSIDE", -101, h -> h.about(1, -1));
        refused("root: both UNKNOWN", -101, h -> h.root(10, 1));
        refused("block: UNKNOWN, OUTSIDE", -101, h -> h.block(3, 6));
        refused("way: OUTSIDE, STATE", -102, h -> h.way(2));
        StickyHeap h = Told.still(1);
        h.make(0, 64);
        due.is("make: OUTSIDE, FULL", h.make(0, 257), -102);
        due.is("make: FULL alone", h.make(0, 256), -104);
    }

    private static void makeMayHaveCollected() {
        due.sentence("What is refused or answered -12 changes nothing (but that make() may have collected)");
        for (int auto = 0; auto < 2; auto++) {
            StickyHeap h = Told.heap(2);
            h.auto(auto == 1);
            h.root(0, h.make(1, 63));
            h.make(0, 3);
            h.root(1, h.make(0, 3));
            h.push(1000);
            h.top(0);
            String before = Told.of(h);
            due.is("make(0, 33)", h.make(0, 33), Told.FULL);
            if (auto == 0) due.same("a make() that is refused, without AUTO,", Told.of(h), before);
            due.is("count(1)", h.count(1), auto == 1 ? 2 : 3);
            due.is("count(7)", h.count(7), 3);
            due.is("count(8)", h.count(8), auto);
            due.is("count(9)", h.count(9), auto);
            due.is("count(10)", h.count(10), auto);
            due.is("seen()", h.seen(), 1000);
            due.is("rooted(1)", h.rooted(1), 68);
            due.is("block(1, 0)", h.block(1, 0), 1);
        }
    }

    public static void main(String[] args) {
        index();
        unknown();
        outside();
        stateAndFull();
        severalAtOnce();
        makeMayHaveCollected();
        due.end();
    }
}
