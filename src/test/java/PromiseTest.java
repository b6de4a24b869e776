/**
 * For each promise of the document: ordinary inputs, its edges and wrong inputs, each with the
 * answer that its words ask, reckoned by hand.
 */
public final class PromiseTest {
    private static final int NONE = -1;
    private static int wrong = 0;
    private static int asked = 0;
    private static int promise = 0;

    private static void due(String call, int got, int want) {
        asked++;
        if (got != want) {
            wrong++;
            System.out.println("promise " + promise + ": " + call + " answered " + got + ", due is " + want);
        }
    }

    private static void due(String call, boolean got, boolean want) {
        due(call, got ? 1 : 0, want ? 1 : 0);
    }

    public static void main(String[] args) {
        newObject();
        nodes();
        link();
        linkFull();
        undo();
        undoNames();
        rain();
        state();
        linkOf();
        bridge();
        node();
        block();
        member();
        child();
        turning();
        land();
        landLongest();
        storyBlocks();
        storyLands();
        storyParts();
        latest();
        doubleSafe();
        way();
        since();
        sinceParts();
        would();
        best();
        worst();
        part();
        centre();
        between();
        mending();
        without();
        ring();
        wouldName();
        bridgesBy();
        look();
        lookFull();
        System.out.println(asked + " answers, " + wrong + " not as due");
        if (wrong != 0) {
            System.exit(1);
        }
    }

    private static void newObject() {
        promise = 1;
        SafeBlocks x = new SafeBlocks();
        due("NONE", SafeBlocks.NONE, -1);
        due("look(0)", x.look(0), 8);
        due("look(1)", x.look(1), 0);
        due("look(2)", x.look(2), 0);
        due("look(3)", x.look(3), 8);
        due("look(4)", x.look(4), 8);
        due("look(5)", x.look(5), 0);
        due("look(9)", x.look(9), 0);
        due("latest(0)", x.latest(0), NONE);
        for (int v = 0; v < 8; v++) {
            due("node(v, 0)", x.node(v, 0), v);
            due("node(v, 1)", x.node(v, 1), v);
            due("block(v, 4)", x.block(v, 4), NONE);
            due("block(v, 0)", x.block(v, 0), 1);
        }
        due("node(8, 0)", x.node(8, 0), NONE);
    }

    private static void nodes() {
        promise = 2;
        SafeBlocks x = Webs.example();
        x.state(77);
        due("nodes(1)", x.nodes(1), false);
        due("nodes(33)", x.nodes(33), false);
        due("nodes(-1)", x.nodes(-1), false);
        due("nodes(0)", x.nodes(0), false);
        due("nodes(least int)", x.nodes(Integer.MIN_VALUE), false);
        due("nodes(greatest int)", x.nodes(Integer.MAX_VALUE), false);
        due("look(1) as it was", x.look(1), 11);
        due("look(0) as it was", x.look(0), 10);
        due("nodes(32)", x.nodes(32), true);
        due("look(0)", x.look(0), 32);
        due("look(1)", x.look(1), 0);
        due("look(3)", x.look(3), 32);
        due("look(5)", x.look(5), 0);
        due("look(9) is kept", x.look(9), 77);
        due("story(0, 5, 1)", x.story(0, 5, 1), NONE);
        due("story(2, 0, 0)", x.story(2, 0, 0), NONE);
        due("latest(1)", x.latest(1), NONE);
        due("undo(1)", x.undo(1), NONE);
        due("node(31, 0)", x.node(31, 0), 31);
        due("node(4, 4)", x.node(4, 4), 0);
        due("look(6)", x.look(6), 0);
        due("look(10)", x.look(10), 0);
        due("block(0, 4)", x.block(0, 4), NONE);
        due("block(31, 10)", x.block(31, 10), 1);
        due("nodes(2)", x.nodes(2), true);
        due("node(1, 0)", x.node(1, 0), 1);
        due("node(2, 0)", x.node(2, 0), NONE);
    }

    private static void link() {
        promise = 3;
        SafeBlocks x = new SafeBlocks();
        due("link(-1, 0)", x.link(-1, 0), NONE);
        due("link(0, -1)", x.link(0, -1), NONE);
        due("link(8, 0)", x.link(8, 0), NONE);
        due("link(0, 8)", x.link(0, 8), NONE);
        due("link(3, 3)", x.link(3, 3), NONE);
        due("look(1)", x.look(1), 0);
        due("link(0, 1)", x.link(0, 1), NONE - 1);
        due("link(2, 1)", x.link(2, 1), NONE - 1);
        due("link(2, 3)", x.link(2, 3), NONE - 1);
        due("link(3, 0)", x.link(3, 0), 3);
        due("link(0, 2) within", x.link(0, 2), 0);
        due("link(4, 5)", x.link(4, 5), NONE - 1);
        due("link(5, 4) again", x.link(5, 4), 1);
        due("link(4, 5) again", x.link(4, 5), 0);
        due("link(4, 0)", x.link(4, 0), NONE - 1);
        due("link(5, 3) between the blocks", x.link(5, 3), 1);
        due("look(3)", x.look(3), 3);
        due("look(1)", x.look(1), 10);
    }

    private static void linkFull() {
        promise = 3;
        SafeBlocks x = new SafeBlocks();
        x.nodes(2);
        due("the first", x.link(0, 1), NONE - 1);
        due("the second", x.link(1, 0), 1);
        for (int l = 2; l < 64; l++) {
            due("link " + l, x.link(l % 2, 1 - l % 2), 0);
        }
        due("the 65th", x.link(0, 1), NONE);
        due("look(1)", x.look(1), 64);
        due("linkOf(63, 0)", x.linkOf(63, 0), 1);
        due("linkOf(63, 7)", x.linkOf(63, 7), 0);
        due("linkOf(64, 0)", x.linkOf(64, 0), NONE);
        due("part(0, 0)", x.part(0, 0), 64);
        due("story(2, 63, 1)", x.story(2, 63, 1), 63);
        due("undo(1)", x.undo(1), 63);
        due("the 64th again", x.link(0, 1), 0);
    }

    private static void undo() {
        promise = 4;
        SafeBlocks x = Webs.example();
        x.state(5);
        due("undo(-1)", x.undo(-1), NONE);
        due("undo(12)", x.undo(12), NONE);
        due("undo(greatest int)", x.undo(Integer.MAX_VALUE), NONE);
        due("look(1) as it was", x.look(1), 11);
        due("undo(0)", x.undo(0), 11);
        due("undo(1)", x.undo(1), 10);
        due("block(4, 0)", x.block(4, 0), 3);
        due("linkOf(8, 2)", x.linkOf(8, 2), 1);
        due("linkOf(8, 3)", x.linkOf(8, 3), NONE);
        due("latest(2)", x.latest(2), 3);
        due("latest(3)", x.latest(3), 2);
        due("undo(4)", x.undo(4), 6);
        due("node(7, 1)", x.node(7, 1), 7);
        due("look(9) is kept", x.look(9), 5);
        due("undo(6)", x.undo(6), 0);
        due("look(4)", x.look(4), 10);
        due("latest(0)", x.latest(0), NONE);
        due("undo(1) of none", x.undo(1), NONE);
        due("undo(0) of none", x.undo(0), 0);
    }

    private static void undoNames() {
        promise = 4;
        SafeBlocks x = Webs.grown(6, 0, 1, 2, 3, 3, 4, 1, 2);
        due("land 2 is the greater", x.land(2, 4), 2);
        due("block(0, 4) when turned", x.block(0, 4), 1);
        due("story(1, 0, 1)", x.story(1, 0, 1), 3);
        due("undo(1)", x.undo(1), 3);
        due("block(0, 4) as it was", x.block(0, 4), NONE);
        due("block(1, 4) as it was", x.block(1, 4), 0);
        due("story(1, 0, 0)", x.story(1, 0, 0), 1);
        due("story(1, 0, 1)", x.story(1, 0, 1), NONE);
        due("story(1, 0, 2)", x.story(1, 0, 2), NONE);
        due("story(1, 2, 3)", x.story(1, 2, 3), 3);
        due("story(2, 3, 0)", x.story(2, 3, 0), NONE);
        due("link(4, 2)", x.link(4, 2), 2);
        due("story(0, 2, 3)", x.story(0, 2, 3), 3);
        due("undo(1)", x.undo(1), 3);
        due("story(0, 2, 3)", x.story(0, 2, 3), 1);
        due("story(0, 4, 1)", x.story(0, 4, 1), NONE);
        due("linkOf(1, 3)", x.linkOf(1, 3), NONE);
    }

    /** The words of the document, in longs. */
    private static long next(long state) {
        return 1664525L * state + 1013904223L & 0xFFFFFFFFL;
    }

    private static void rain() {
        promise = 5;
        for (int n = 2; n <= 32; n += 5) {
            SafeBlocks x = new SafeBlocks();
            x.nodes(n);
            x.state(-123456789 + n);
            due("rain(0)", x.rain(0), NONE);
            due("rain(-1)", x.rain(-1), NONE);
            due("rain(65)", x.rain(65), NONE);
            due("no draw", x.look(9), -123456789 + n);
            due("rain(3)", x.rain(3), 3);
            long state = -123456789L + n & 0xFFFFFFFFL;
            for (int l = 0; l < 3; l++) {
                state = next(state);
                int u = (int) ((state >> 8) % n);
                state = next(state);
                int v = (int) ((state >> 8) % (n - 1));
                due("first of " + l, x.linkOf(l, 0), u);
                due("second of " + l, x.linkOf(l, 1), v < u ? v : v + 1);
            }
            due("look(9)", x.look(9), (int) state);
            due("rain(62)", x.rain(62), NONE);
            due("no draw", x.look(9), (int) state);
            due("rain(61)", x.rain(61), 64);
            due("rain(1)", x.rain(1), NONE);
            due("look(1)", x.look(1), 64);
        }
        SafeBlocks x = new SafeBlocks();
        due("rain(64)", x.rain(64), 64);
        int state = x.look(9);
        due("undo(64)", x.undo(64), 0);
        due("the draws stay", x.look(9), state);
    }

    private static void state() {
        promise = 6;
        SafeBlocks x = new SafeBlocks();
        due("state(5)", x.state(5), 0);
        due("state(least int)", x.state(Integer.MIN_VALUE), 5);
        due("state(-1)", x.state(-1), Integer.MIN_VALUE);
        due("look(9)", x.look(9), -1);
        due("rain(1)", x.rain(1), 1);
        due("state(0)", x.state(0), (int) next(next(0xFFFFFFFFL)));
    }

    private static void linkOf() {
        promise = 7;
        SafeBlocks x = Webs.example();
        int[][] rows = {
            {4, 5, 0, 2, 0, NONE, NONE, 0},
            {5, 6, 0, 2, 0, NONE, NONE, 0},
            {6, 4, 0, 2, 0, NONE, NONE, 0},
            {0, 1, 0, 4, 1, NONE, NONE, 3},
            {1, 0, 0, 4, 1, NONE, NONE, 3},
            {1, 4, 1, NONE, 2, 2, 7, 5},
            {6, 7, 1, NONE, 3, 7, 2, 6},
            {7, 8, 1, NONE, 4, 8, 1, 7},
            {4, 3, 0, 10, 5, NONE, NONE, 8},
            {3, 2, 0, 10, 5, NONE, NONE, 8},
            {2, 4, 0, 10, 5, NONE, NONE, 8},
        };
        for (int l = 0; l < rows.length; l++) {
            for (int what = 0; what < 8; what++) {
                due("linkOf(" + l + ", " + what + ")", x.linkOf(l, what), rows[l][what]);
            }
            due("linkOf(" + l + ", -1)", x.linkOf(l, -1), NONE);
            due("linkOf(" + l + ", 8)", x.linkOf(l, 8), NONE);
        }
        due("linkOf(11, 0)", x.linkOf(11, 0), NONE);
        due("linkOf(-1, 0)", x.linkOf(-1, 0), NONE);
        due("link(2, 8)", x.link(2, 8), 2);
        due("linkOf(6, 3)", x.linkOf(6, 3), 11);
        due("linkOf(11, 3)", x.linkOf(11, 3), 11);
        due("linkOf(6, 4)", x.linkOf(6, 4), 0);
        due("linkOf(10, 4)", x.linkOf(10, 4), 0);
        due("linkOf(6, 7)", x.linkOf(6, 7), 0);
        due("linkOf(6, 5)", x.linkOf(6, 5), NONE);
        due("linkOf(5, 6)", x.linkOf(5, 6), 7);
    }

    private static void bridge() {
        promise = 8;
        SafeBlocks x = Webs.example();
        due("bridge(-1)", x.bridge(-1), 3);
        due("bridge(0)", x.bridge(0), 5);
        due("bridge(1)", x.bridge(1), 6);
        due("bridge(2)", x.bridge(2), 7);
        due("bridge(3)", x.bridge(3), NONE);
        due("bridge(-2)", x.bridge(-2), NONE);
        due("link(7, 5)", x.link(7, 5), 1);
        due("bridge(1)", x.bridge(1), 7);
        due("bridge(-1)", x.bridge(-1), 2);
    }

    private static void node() {
        promise = 9;
        SafeBlocks x = Webs.example();
        int[][] rows = {
            {0, 4, 2, 0, 1, 0, 1}, {0, 4, 3, 1, 2, 1, 1}, {4, 4, 2, 0, 1, 0, 0}, {4, 4, 2, 0, 1, 0, 0},
            {4, 4, 5, 1, 3, 1, 0}, {4, 4, 2, 0, 1, 0, 0}, {4, 4, 3, 1, 2, 1, 0}, {7, 4, 2, 2, 2, 1, 1},
            {8, 4, 1, 1, 1, 0, 2}, {9, 9, 0, 0, 0, 0, 0},
        };
        for (int v = 0; v < rows.length; v++) {
            for (int what = 0; what < 7; what++) {
                due("node(" + v + ", " + what + ")", x.node(v, what), rows[v][what]);
            }
            due("node(" + v + ", -1)", x.node(v, -1), NONE);
            due("node(" + v + ", 7)", x.node(v, 7), NONE);
        }
        due("node(-1, 0)", x.node(-1, 0), NONE);
        due("node(10, 0)", x.node(10, 0), NONE);
    }

    private static void block() {
        promise = 10;
        SafeBlocks x = Webs.example();
        int[] names = {0, 4, 7, 8, 9};
        int[][] rows = {
            {2, 0, 2, 1, 4, 5, 1, 0, 0, 1, 2},
            {5, 2, 6, 2, NONE, NONE, 0, 2, 1, 2, 9},
            {1, 7, 0, 2, 4, 6, 1, 1, 0, 0, 2},
            {1, 8, 0, 1, 7, 7, 2, 0, 0, 0, 1},
            {1, 9, 0, 0, NONE, NONE, 0, 0, 0, 0, 1},
        };
        for (int b = 0; b < names.length; b++) {
            for (int what = 0; what < 11; what++) {
                due("block(" + names[b] + ", " + what + ")", x.block(names[b], what), rows[b][what]);
            }
            due("block(, -1)", x.block(names[b], -1), NONE);
            due("block(, 11)", x.block(names[b], 11), NONE);
        }
        for (int ended : new int[] {1, 2, 3, 5, 6, -1, 10, Integer.MIN_VALUE, Integer.MAX_VALUE}) {
            due("block(" + ended + ", 0)", x.block(ended, 0), NONE);
        }
    }

    private static void member() {
        promise = 11;
        SafeBlocks x = Webs.example();
        for (int i = 0; i < 5; i++) {
            due("member(4, " + i + ")", x.member(4, i), i + 2);
        }
        due("member(4, 5)", x.member(4, 5), NONE);
        due("member(4, -1)", x.member(4, -1), NONE);
        due("member(9, 0)", x.member(9, 0), 9);
        due("member(9, 1)", x.member(9, 1), NONE);
        due("member(5, 0) of an ended name", x.member(5, 0), NONE);
        due("member(10, 0)", x.member(10, 0), NONE);
        due("member(-1, 0)", x.member(-1, 0), NONE);
    }

    private static void child() {
        promise = 12;
        SafeBlocks x = Webs.example();
        due("child(4, 0)", x.child(4, 0), 0);
        due("child(4, 1)", x.child(4, 1), 7);
        due("child(4, 2)", x.child(4, 2), NONE);
        due("child(4, -1)", x.child(4, -1), NONE);
        due("child(7, 0)", x.child(7, 0), 8);
        due("child(8, 0)", x.child(8, 0), NONE);
        due("child(5, 0) of an ended name", x.child(5, 0), NONE);
        due("child(-1, 0)", x.child(-1, 0), NONE);
        due("child(-1, 1)", x.child(-1, 1), NONE);
        due("child(10, 0)", x.child(10, 0), NONE);
        due("link(8, 3)", x.link(8, 3), 2);
        due("link(9, 8)", x.link(9, 8), NONE - 1);
        due("child(4, 1) of what had one of them", x.child(4, 1), 9);
    }

    private static void turning() {
        promise = 12;
        // Land 2 (2, 3, 4) is turned at 4 under land 0 of four nodes: 4, 3, 2 hang below 1.
        SafeBlocks x = Webs.grown(9, 0, 1, 1, 5, 5, 6, 2, 3, 3, 4, 4, 1);
        due("latest(0)", x.latest(0), 3);
        due("block(4, 4)", x.block(4, 4), 1);
        due("block(4, 5)", x.block(4, 5), 5);
        due("block(3, 4)", x.block(3, 4), 4);
        due("block(3, 5)", x.block(3, 5), 4);
        due("block(2, 4)", x.block(2, 4), 3);
        due("block(2, 5)", x.block(2, 5), 3);
        due("land(0, 4)", x.land(0, 4), 0);
        // Like sizes: the land with the greater name is turned, though its end comes first.
        x = Webs.grown(6, 2, 3, 0, 1, 3, 1);
        due("latest(0)", x.latest(0), 2);
        due("block(3, 4)", x.block(3, 4), 1);
        due("block(2, 4)", x.block(2, 4), 3);
        due("land(0, 4)", x.land(0, 4), 0);
        // The block of the whole way takes the parent of that nearest to the root.
        x = Webs.grown(8, 0, 1, 1, 2, 2, 3, 2, 4, 4, 5, 3, 6, 5, 3);
        due("latest(1)", x.latest(1), 4);
        due("block(2, 0)", x.block(2, 0), 4);
        due("block(2, 4)", x.block(2, 4), 1);
        due("block(2, 5)", x.block(2, 5), 1);
        due("block(6, 4)", x.block(6, 4), 2);
        due("block(6, 6)", x.block(6, 6), 3);
        due("block(2, 10)", x.block(2, 10), 5);
    }

    private static void land() {
        promise = 13;
        SafeBlocks x = Webs.example();
        int[] want = {9, 4, 3, 11, 4, 1, 4, 3, 0, 8, 6};
        int[] alone = {1, 1, 0, 0, 9, 0, 0, 0, 9, 9, 0};
        for (int what = 0; what < 11; what++) {
            due("land(4, " + what + ")", x.land(4, what), want[what]);
            due("land(9, " + what + ")", x.land(9, what), alone[what]);
        }
        due("land(4, -1)", x.land(4, -1), NONE);
        due("land(4, 11)", x.land(4, 11), NONE);
        due("land(0, 0) of an ended name", x.land(0, 0), NONE);
        due("land(5, 4) of an ended name", x.land(5, 4), NONE);
        due("land(-1, 0)", x.land(-1, 0), NONE);
        due("land(10, 0)", x.land(10, 0), NONE);
    }

    private static void landLongest() {
        promise = 13;
        // A star: of all pairs of its ends the one with the least names.
        SafeBlocks x = Webs.grown(7, 3, 6, 3, 5, 3, 1, 3, 4);
        due("land(3, 7)", x.land(3, 7), 2);
        due("land(3, 8)", x.land(3, 8), 1);
        due("land(3, 9)", x.land(3, 9), 4);
        due("land(3, 5)", x.land(3, 5), 2);
        x.link(2, 3);
        due("land(3, 9)", x.land(3, 9), 2);
        due("five ends: land(3, 5)", x.land(3, 5), 3);
        // The least name is no end of the longest way.
        x = Webs.grown(6, 4, 0, 0, 5, 5, 3);
        due("land(0, 7)", x.land(0, 7), 3);
        due("land(0, 8)", x.land(0, 8), 3);
        due("land(0, 9)", x.land(0, 9), 4);
        // A land that is one block: the block is both ends.
        x = Webs.grown(4, 3, 2, 2, 1, 1, 3);
        due("land(2, 7)", x.land(2, 7), 0);
        due("land(2, 8)", x.land(2, 8), x.node(3, 0));
        due("land(2, 9)", x.land(2, 9), x.node(3, 0));
    }

    private static void storyBlocks() {
        promise = 14;
        SafeBlocks x = Webs.example();
        int[][] rows = {
            {1, NONE, NONE, 2, 0}, {0, 4, 0, 1, 0}, {0, 10, 4, 1, 4}, {0, 10, 4, 1, 4},
            {1, NONE, NONE, 5, 4}, {0, 2, 4, 1, 4}, {0, 2, 4, 1, 4}, {1, NONE, NONE, 1, 7},
        };
        for (int name = 0; name < rows.length; name++) {
            for (int what = 0; what < 5; what++) {
                due("story(0, " + name + ", " + what + ")", x.story(0, name, what), rows[name][what]);
            }
        }
        due("link(0, 8)", x.link(0, 8), 3);
        due("story(0, 0, 1)", x.story(0, 0, 1), 11);
        due("story(0, 0, 2)", x.story(0, 0, 2), 4);
        due("story(0, 0, 3)", x.story(0, 0, 3), 2);
        due("story(0, 1, 2)", x.story(0, 1, 2), 0);
        due("story(0, 1, 4) over two", x.story(0, 1, 4), 4);
        due("story(0, 4, 3)", x.story(0, 4, 3), 9);
        due("story(0, 10, 0)", x.story(0, 10, 0), NONE);
        due("story(0, -1, 0)", x.story(0, -1, 0), NONE);
        due("story(0, 0, 5)", x.story(0, 0, 5), NONE);
        due("story(0, 0, -1)", x.story(0, 0, -1), NONE);
        due("story(-1, 0, 0)", x.story(-1, 0, 0), NONE);
        due("story(3, 0, 0)", x.story(3, 0, 0), NONE);
    }

    private static void storyLands() {
        promise = 14;
        SafeBlocks x = Webs.example();
        due("story(1, 4, 0)", x.story(1, 4, 0), 1);
        due("story(1, 4, 3)", x.story(1, 4, 3), 9);
        due("story(1, 0, 0)", x.story(1, 0, 0), 0);
        due("story(1, 0, 1)", x.story(1, 0, 1), 5);
        due("story(1, 0, 2)", x.story(1, 0, 2), 4);
        due("story(1, 0, 3)", x.story(1, 0, 3), 2);
        due("story(1, 1, 2)", x.story(1, 1, 2), 0);
        due("story(1, 1, 4) over two", x.story(1, 1, 4), 4);
        due("story(1, 9, 4)", x.story(1, 9, 4), 9);
        due("story(1, 10, 0)", x.story(1, 10, 0), NONE);
        // Of like lands the least name keeps its own.
        x = Webs.grown(4, 3, 1, 2, 0, 0, 1);
        due("story(1, 1, 2)", x.story(1, 1, 2), 0);
        due("story(1, 3, 4)", x.story(1, 3, 4), 0);
    }

    private static void storyParts() {
        promise = 14;
        SafeBlocks x = Webs.example();
        due("story(2, 0, 3)", x.story(2, 0, 3), 3);
        due("story(2, 2, 0)", x.story(2, 2, 0), 0);
        due("story(2, 2, 1) ends as it comes", x.story(2, 2, 1), 2);
        due("story(2, 2, 3)", x.story(2, 2, 3), 1);
        due("story(2, 5, 0)", x.story(2, 5, 0), 1);
        due("story(2, 10, 2)", x.story(2, 10, 2), 8);
        due("story(2, 11, 0)", x.story(2, 11, 0), NONE);
        due("story(2, -1, 0)", x.story(2, -1, 0), NONE);
        // Link 11 (5-3) makes both triangles one: of like many links the least name.
        x.link(5, 3);
        due("story(2, 8, 1)", x.story(2, 8, 1), 11);
        due("story(2, 8, 2)", x.story(2, 8, 2), 0);
        due("story(2, 8, 3)", x.story(2, 8, 3), 3);
        due("story(2, 0, 3)", x.story(2, 0, 3), 7);
        due("story(2, 10, 4) over two", x.story(2, 10, 4), 0);
        // The part with the most links keeps its name, though another's is less.
        x = Webs.grown(5, 0, 1, 1, 2, 2, 3, 3, 1, 3, 0);
        due("story(2, 0, 2)", x.story(2, 0, 2), 1);
        due("linkOf(0, 7)", x.linkOf(0, 7), 1);
        due("linkOf(0, 4)", x.linkOf(0, 4), 0);
        due("story(2, 1, 3)", x.story(2, 1, 3), 5);
    }

    private static void latest() {
        promise = 15;
        SafeBlocks x = new SafeBlocks();
        for (int what = -1; what < 5; what++) {
            due("latest(" + what + ") of none", x.latest(what), NONE);
        }
        x = Webs.grown(8, 3, 2, 2, 4, 5, 6, 6, 7, 0, 1, 1, 7);
        due("latest(0)", x.latest(0), 2);
        due("latest(1)", x.latest(1), 1);
        due("latest(2)", x.latest(2), 1);
        due("latest(3)", x.latest(3), 7);
        x.link(5, 1);
        due("latest(0)", x.latest(0), 0);
        due("latest(1)", x.latest(1), 4);
        due("latest(2) ahead of it", x.latest(2), 5);
        due("latest(3) ahead of it", x.latest(3), 1);
        x.link(6, 7);
        due("latest(1) within a block", x.latest(1), 1);
        due("latest(0) within a block", x.latest(0), 0);
        due("latest(2)", x.latest(2), 1);
        due("latest(-1)", x.latest(-1), NONE);
        due("latest(4)", x.latest(4), NONE);
        x.link(9, 9);
        due("latest(1) after one that can't be", x.latest(1), 1);
        x.undo(1);
        due("latest(1) of the one before", x.latest(1), 4);
        // Land 2 (2, 3, 4), whose ends have a block between them, is turned: three blocks.
        x = Webs.grown(12, 5, 6, 6, 7, 7, 8, 8, 9, 9, 10, 2, 3, 3, 4, 4, 3, 4, 1);
        x.link(1, 5);
        due("blocks are turned, not nodes", x.latest(0), 3);
    }

    private static void doubleSafe() {
        promise = 16;
        SafeBlocks x = Webs.example();
        due("doubleSafe(5, 6)", x.doubleSafe(5, 6), 1);
        due("doubleSafe(5, 3) of one block", x.doubleSafe(5, 3), 0);
        due("doubleSafe(0, 1) by two links", x.doubleSafe(0, 1), 1);
        due("doubleSafe(1, 4) by a bridge", x.doubleSafe(1, 4), 0);
        due("doubleSafe(4, 2)", x.doubleSafe(4, 2), 1);
        due("doubleSafe(9, 8)", x.doubleSafe(9, 8), 0);
        due("doubleSafe(5, 5)", x.doubleSafe(5, 5), NONE);
        due("doubleSafe(-1, 5)", x.doubleSafe(-1, 5), NONE);
        due("doubleSafe(5, 10)", x.doubleSafe(5, 10), NONE);
        x.link(5, 3);
        due("doubleSafe(6, 2)", x.doubleSafe(6, 2), 1);
    }

    private static void way() {
        promise = 17;
        SafeBlocks x = Webs.example();
        due("way(0, 8, -1)", x.way(0, 8, -1), 3);
        due("way(0, 8, 0)", x.way(0, 8, 0), 5);
        due("way(0, 8, 1)", x.way(0, 8, 1), 6);
        due("way(0, 8, 2)", x.way(0, 8, 2), 7);
        due("way(0, 8, 3)", x.way(0, 8, 3), NONE);
        due("way(0, 8, -2)", x.way(0, 8, -2), NONE);
        due("way(8, 0, 0)", x.way(8, 0, 0), 7);
        due("way(8, 0, 2)", x.way(8, 0, 2), 5);
        due("way(2, 5, -1)", x.way(2, 5, -1), 0);
        due("way(2, 5, 0)", x.way(2, 5, 0), NONE);
        due("way(8, 8, -1)", x.way(8, 8, -1), 0);
        due("way(8, 8, 0)", x.way(8, 8, 0), NONE);
        due("way(9, 8, -1)", x.way(9, 8, -1), NONE);
        due("way(9, 9, -1)", x.way(9, 9, -1), 0);
        due("way(10, 0, -1)", x.way(10, 0, -1), NONE);
        due("way(0, -1, -1)", x.way(0, -1, -1), NONE);
    }

    private static void since() {
        promise = 18;
        SafeBlocks x = Webs.example();
        due("since(4, 6, 0)", x.since(4, 6, 0), 2);
        due("since(4, 6, 1)", x.since(4, 6, 1), 3);
        due("since(4, 6, 2)", x.since(4, 6, 2), 3);
        due("since(0, 1, 0)", x.since(0, 1, 0), 4);
        due("since(0, 1, 1)", x.since(0, 1, 1), 5);
        due("since(0, 1, 2)", x.since(0, 1, 2), 5);
        due("since(0, 8, 0)", x.since(0, 8, 0), 8);
        due("since(0, 8, 1)", x.since(0, 8, 1), NONE);
        due("since(5, 2, 0)", x.since(5, 2, 0), 10);
        due("since(5, 2, 1)", x.since(5, 2, 1), 11);
        due("since(5, 2, 2) of two parts", x.since(5, 2, 2), NONE);
        due("since(1, 4, 2)", x.since(1, 4, 2), NONE);
        due("since(9, 0, 0)", x.since(9, 0, 0), NONE);
        due("since(4, 4, 0)", x.since(4, 4, 0), NONE);
        due("since(4, 10, 0)", x.since(4, 10, 0), NONE);
        due("since(-1, 4, 0)", x.since(-1, 4, 0), NONE);
        due("since(4, 6, 3)", x.since(4, 6, 3), NONE);
        due("since(4, 6, -1)", x.since(4, 6, -1), NONE);
        x.link(9, 8);
        x.link(3, 6);
        due("since(5, 2, 2)", x.since(5, 2, 2), 13);
        due("since(4, 6, 2) stays", x.since(4, 6, 2), 3);
        x.undo(1);
        due("since(5, 2, 2) again", x.since(5, 2, 2), NONE);
    }

    private static void sinceParts() {
        promise = 18;
        // Triangles 0 1 2 (links 0, 1, 2), 2 3 4 (3, 4, 5) and 4 5 6 (6, 7, 8), then 3-5 (9), then
        // 1-3 (10): parts 3 and 6 become one, then the first one with them.
        SafeBlocks x = Webs.grown(8, 0, 1, 1, 2, 2, 0, 2, 3, 3, 4, 4, 2, 4, 5, 5, 6, 6, 4, 3, 5, 1, 3);
        due("story(2, 6, 2)", x.story(2, 6, 2), 3);
        due("story(2, 0, 2)", x.story(2, 0, 2), 3);
        due("story(2, 8, 4)", x.story(2, 8, 4), 3);
        due("since(0, 6, 0)", x.since(0, 6, 0), 8);
        due("since(0, 6, 1)", x.since(0, 6, 1), 9);
        due("since(0, 6, 2)", x.since(0, 6, 2), 11);
        due("since(6, 0, 2)", x.since(6, 0, 2), 11);
        due("since(2, 6, 2)", x.since(2, 6, 2), 10);
        due("since(6, 3, 2)", x.since(6, 3, 2), 10);
        due("since(3, 4, 2)", x.since(3, 4, 2), 6);
        due("since(4, 5, 2)", x.since(4, 5, 2), 9);
        due("since(0, 2, 2)", x.since(0, 2, 2), 3);
        due("since(0, 3, 2)", x.since(0, 3, 2), 11);
        due("since(7, 3, 2)", x.since(7, 3, 2), NONE);
    }

    private static void would() {
        promise = 19;
        SafeBlocks x = Webs.example();
        due("would(0, 8, 0)", x.would(0, 8, 0), 3);
        due("would(0, 8, 1)", x.would(0, 8, 1), 9);
        due("would(3, 8, 0)", x.would(3, 8, 0), 2);
        due("would(3, 8, 1)", x.would(3, 8, 1), 7);
        due("would(2, 5, 0)", x.would(2, 5, 0), 0);
        due("would(2, 5, 1)", x.would(2, 5, 1), 5);
        due("would(9, 5, 0) of unlike lands", x.would(9, 5, 0), 0);
        due("would(9, 5, 1)", x.would(9, 5, 1), 1);
        due("would(5, 9, 1) of the first one", x.would(5, 9, 1), 5);
        due("would(5, 5, 0)", x.would(5, 5, 0), NONE);
        due("would(5, 10, 0)", x.would(5, 10, 0), NONE);
        due("would(-1, 5, 0)", x.would(-1, 5, 0), NONE);
        due("would(0, 8, 2)", x.would(0, 8, 2), NONE);
        due("would(0, 8, -1)", x.would(0, 8, -1), NONE);
        due("nothing came", x.look(1), 11);
    }

    private static void best() {
        promise = 20;
        SafeBlocks x = Webs.example();
        due("best(0)", x.best(0), 3);
        due("best(1)", x.best(1), 0);
        due("best(2)", x.best(2), 8);
        due("best(3)", x.best(3), NONE);
        due("best(-1)", x.best(-1), NONE);
        x.link(8, 0);
        for (int what = -1; what < 4; what++) {
            due("best without bridges", x.best(what), NONE);
        }
        // The pair is of nodes: of several the first, whatever the names.
        x = Webs.grown(6, 5, 4, 4, 3, 0, 1);
        due("best(0)", x.best(0), 2);
        due("best(1)", x.best(1), 3);
        due("best(2)", x.best(2), 5);
        x = Webs.grown(4, 3, 2, 1, 0);
        due("best(1) of like ones", x.best(1), 0);
        due("best(2) of like ones", x.best(2), 1);
    }

    private static void worst() {
        promise = 21;
        SafeBlocks x = Webs.example();
        due("worst(0) of like ones the first", x.worst(0), 5);
        due("worst(1)", x.worst(1), 14);
        due("worst(2)", x.worst(2), NONE);
        due("worst(-1)", x.worst(-1), NONE);
        x.link(9, 8);
        due("worst(0)", x.worst(0), 6);
        due("worst(1)", x.worst(1), 21);
        x = Webs.grown(4, 0, 1, 1, 2, 2, 0);
        due("worst(0) without bridges", x.worst(0), NONE);
        due("worst(1) without bridges", x.worst(1), NONE);
        due("worst(1) of 32", Webs.path(32).worst(1), 256);
        due("worst(0) of 32", Webs.path(32).worst(0), 15);
    }

    private static void part() {
        promise = 22;
        SafeBlocks x = Webs.example();
        int[][] rows = {{3, 3, 0}, {2, 2, 3}, {1, 2, 5}, {1, 2, 6}, {1, 2, 7}, {3, 3, 8}};
        for (int p = 0; p < rows.length; p++) {
            for (int what = 0; what < 3; what++) {
                due("part(" + p + ", " + what + ")", x.part(p, what), rows[p][what]);
            }
            due("part(" + p + ", -1)", x.part(p, -1), NONE);
            due("part(" + p + ", 3)", x.part(p, 3), NONE);
        }
        due("part(6, 0)", x.part(6, 0), NONE);
        due("part(-1, 0)", x.part(-1, 0), NONE);
        x.link(5, 3);
        due("part(0, 0)", x.part(0, 0), 7);
        due("part(0, 1)", x.part(0, 1), 5);
        due("part(5, 0)", x.part(5, 0), NONE);
        due("part(0, 0) without links", new SafeBlocks().part(0, 0), NONE);
    }

    private static void centre() {
        promise = 23;
        SafeBlocks x = Webs.example();
        due("centre(4) of two the least name", x.centre(4), 4);
        due("centre(9)", x.centre(9), 9);
        due("centre(0) of an ended name", x.centre(0), NONE);
        due("centre(-1)", x.centre(-1), NONE);
        due("centre(10)", x.centre(10), NONE);
        x.link(8, 9);
        due("centre(4)", x.centre(4), 7);
        due("centre of a path of 5", Webs.path(5).centre(0), 2);
        due("centre of a path of 6", Webs.path(6).centre(0), 2);
        // The middle blocks are 5 and 1: the least name, though it is not the root.
        due("centre of 4", Webs.grown(6, 3, 5, 5, 1, 1, 2).centre(3), 1);
    }

    private static void between() {
        promise = 24;
        SafeBlocks x = Webs.example();
        due("between(0, 8, -1)", x.between(0, 8, -1), 4);
        due("between(0, 8, 0)", x.between(0, 8, 0), 1);
        due("between(0, 8, 1)", x.between(0, 8, 1), 4);
        due("between(0, 8, 2)", x.between(0, 8, 2), 6);
        due("between(0, 8, 3)", x.between(0, 8, 3), 7);
        due("between(0, 8, 4)", x.between(0, 8, 4), NONE);
        due("between(0, 8, -2)", x.between(0, 8, -2), NONE);
        due("between(8, 0, 0)", x.between(8, 0, 0), 7);
        due("between(8, 0, 3)", x.between(8, 0, 3), 1);
        due("between(5, 3, -1) within a block", x.between(5, 3, -1), 1);
        due("between(5, 3, 0)", x.between(5, 3, 0), 4);
        due("between(4, 6, -1) the ends are none", x.between(4, 6, -1), 0);
        due("between(4, 6, 0)", x.between(4, 6, 0), NONE);
        due("between(9, 0, -1)", x.between(9, 0, -1), NONE);
        due("between(4, 4, -1)", x.between(4, 4, -1), NONE);
        due("between(4, 10, -1)", x.between(4, 10, -1), NONE);
        due("between(-1, 4, -1)", x.between(-1, 4, -1), NONE);
        x.link(5, 3);
        due("between(5, 2, -1)", x.between(5, 2, -1), 0);
        due("between(2, 7, 0)", x.between(2, 7, 0), 6);
    }

    private static void mending() {
        promise = 25;
        SafeBlocks x = Webs.example();
        due("mending(4, 0, 0)", x.mending(4, 0, 0), 0);
        due("mending(4, 0, 1)", x.mending(4, 0, 1), 8);
        due("mending(4, 1, 0)", x.mending(4, 1, 0), NONE);
        due("mending(4, -1, 0)", x.mending(4, -1, 0), NONE);
        due("mending(4, 0, 2)", x.mending(4, 0, 2), NONE);
        due("mending(4, 0, -1)", x.mending(4, 0, -1), NONE);
        due("mending(9, 0, 0)", x.mending(9, 0, 0), NONE);
        due("mending(0, 0, 0) of an ended name", x.mending(0, 0, 0), NONE);
        due("mending(10, 0, 0)", x.mending(10, 0, 0), NONE);
        // Root 3; children 1 (with 6 below) and 4, 5: the row 6, 4, 5 of three ends.
        x = Webs.grown(8, 3, 4, 3, 5, 3, 1, 1, 6);
        due("three ends", x.land(3, 5), 2);
        due("mending(3, 0, 0)", x.mending(3, 0, 0), 6);
        due("mending(3, 0, 1)", x.mending(3, 0, 1), 4);
        due("mending(3, 1, 0)", x.mending(3, 1, 0), 4);
        due("mending(3, 1, 1)", x.mending(3, 1, 1), 5);
        due("mending(3, 2, 0)", x.mending(3, 2, 0), NONE);
        // The root is an end itself, ahead of all.
        x = Webs.path(4);
        due("mending(0, 0, 0) of a path", x.mending(0, 0, 0), 0);
        due("mending(0, 0, 1) of a path", x.mending(0, 0, 1), 3);
        // Of a block its least node, not the one that it is named by.
        x = Webs.grown(6, 4, 5, 3, 1, 3, 2, 2, 1, 3, 0, 0, 1, 3, 4);
        due("the block of 0, 1, 2, 3", x.node(0, 0), 1);
        due("mending(1, 0, 0)", x.mending(1, 0, 0), 0);
        due("mending(1, 0, 1)", x.mending(1, 0, 1), 5);
    }

    private static void without() {
        promise = 26;
        SafeBlocks x = Webs.example();
        int[][] links = {
            {2, 7, 5, 7}, {2, 7, 5, 7}, {2, 7, 5, 7}, {2, 6, 4, 6}, {2, 6, 4, 6},
            {3, 5, 2, 5}, {3, 5, 2, 5}, {3, 5, 2, 5}, {2, 7, 5, 7}, {2, 7, 5, 7}, {2, 7, 5, 7},
        };
        int[][] nodes = {
            {3, 6, 3, 5}, {4, 6, 2, 4}, {3, 7, 4, 6}, {3, 7, 4, 6}, {5, 9, 4, 5},
            {3, 7, 4, 6}, {4, 7, 3, 5}, {4, 5, 1, 4}, {3, 5, 2, 5}, {2, 5, 3, 6},
        };
        for (int what = 0; what < 4; what++) {
            for (int l = 0; l < links.length; l++) {
                due("without(0, " + l + ", " + what + ")", x.without(0, l, what), links[l][what]);
            }
            for (int v = 0; v < nodes.length; v++) {
                due("without(1, " + v + ", " + what + ")", x.without(1, v, what), nodes[v][what]);
            }
        }
        due("without(0, 11, 0)", x.without(0, 11, 0), NONE);
        due("without(0, -1, 0)", x.without(0, -1, 0), NONE);
        due("without(1, 10, 0)", x.without(1, 10, 0), NONE);
        due("without(1, -1, 0)", x.without(1, -1, 0), NONE);
        due("without(2, 0, 0)", x.without(2, 0, 0), NONE);
        due("without(-1, 0, 0)", x.without(-1, 0, 0), NONE);
        due("without(0, 0, 4)", x.without(0, 0, 4), NONE);
        due("without(0, 0, -1)", x.without(0, 0, -1), NONE);
        due("all is as it was", x.look(2), 3);
    }

    private static void ring() {
        promise = 27;
        SafeBlocks x = Webs.example();
        due("ring(0, -1)", x.ring(0, -1), 3);
        due("ring(0, 0)", x.ring(0, 0), 5);
        due("ring(0, 1)", x.ring(0, 1), 6);
        due("ring(0, 2)", x.ring(0, 2), 4);
        due("ring(0, 3)", x.ring(0, 3), NONE);
        due("ring(0, -2)", x.ring(0, -2), NONE);
        due("ring(3, -1)", x.ring(3, -1), 2);
        due("ring(3, 0)", x.ring(3, 0), 1);
        due("ring(3, 1)", x.ring(3, 1), 0);
        due("ring(4, 0)", x.ring(4, 0), 0);
        due("ring(5, -1) of a bridge", x.ring(5, -1), NONE);
        due("ring(5, 0) of a bridge", x.ring(5, 0), NONE);
        due("ring(11, -1)", x.ring(11, -1), NONE);
        due("ring(-1, -1)", x.ring(-1, -1), NONE);
        // From 0 to 1 over 4 and 2, or over 3 and 5: 3 is less than 4 as a first step.
        x = Webs.grown(6, 1, 0, 0, 4, 4, 2, 2, 1, 0, 3, 3, 5, 5, 1);
        due("ring(0, -1)", x.ring(0, -1), 4);
        due("ring(0, 0)", x.ring(0, 0), 0);
        due("ring(0, 1)", x.ring(0, 1), 3);
        due("ring(0, 2)", x.ring(0, 2), 5);
        due("ring(0, 3)", x.ring(0, 3), 1);
        // The fewest links go ahead of the least nodes.
        x.link(4, 1);
        due("ring(0, -1)", x.ring(0, -1), 3);
        due("ring(0, 1)", x.ring(0, 1), 4);
        // Whichever end of a link is its first one, a ring goes along it.
        x = Webs.grown(5, 1, 0, 2, 1, 3, 2, 3, 4, 0, 4);
        int[] round = {0, 4, 3, 2, 1};
        due("ring(0, -1)", x.ring(0, -1), 5);
        for (int i = 0; i < 5; i++) {
            due("ring(0, " + i + ")", x.ring(0, i), round[i]);
        }
        x = Webs.path(32);
        x.link(31, 0);
        due("ring(31, -1)", x.ring(31, -1), 32);
        due("ring(31, 0)", x.ring(31, 0), 0);
        due("ring(31, 31)", x.ring(31, 31), 31);
        due("ring(0, 1)", x.ring(0, 1), 2);
    }

    private static void wouldName() {
        promise = 28;
        SafeBlocks x = Webs.example();
        due("wouldName(0, 8, 0)", x.wouldName(0, 8, 0), 4);
        due("wouldName(8, 7, 0) of like ones the least", x.wouldName(8, 7, 0), 7);
        due("wouldName(0, 9, 0) of unlike lands", x.wouldName(0, 9, 0), 0);
        due("wouldName(9, 0, 0)", x.wouldName(9, 0, 0), 9);
        due("wouldName(9, 0, 1)", x.wouldName(9, 0, 1), 4);
        due("wouldName(0, 9, 1)", x.wouldName(0, 9, 1), 4);
        due("wouldName(0, 8, 1)", x.wouldName(0, 8, 1), 4);
        due("wouldName(2, 5, 0)", x.wouldName(2, 5, 0), 4);
        due("wouldName(2, 2, 0)", x.wouldName(2, 2, 0), NONE);
        due("wouldName(2, 10, 0)", x.wouldName(2, 10, 0), NONE);
        due("wouldName(-1, 2, 0)", x.wouldName(-1, 2, 0), NONE);
        due("wouldName(2, 5, 2)", x.wouldName(2, 5, 2), NONE);
        due("wouldName(2, 5, -1)", x.wouldName(2, 5, -1), NONE);
        due("wouldName(5, 3, 1) of like lands", Webs.grown(6, 5, 4, 3, 2).wouldName(5, 3, 1), 2);
    }

    private static void bridgesBy() {
        promise = 29;
        SafeBlocks x = Webs.example();
        int[] want = {0, 1, 2, 0, 1, 0, 1, 2, 3, 4, 5, 3};
        for (int k = 0; k < want.length; k++) {
            due("bridgesBy(" + k + ")", x.bridgesBy(k), want[k]);
        }
        due("bridgesBy(12)", x.bridgesBy(12), NONE);
        due("bridgesBy(-1)", x.bridgesBy(-1), NONE);
        due("bridgesBy(0) of none", new SafeBlocks().bridgesBy(0), 0);
        due("bridgesBy(1) of none", new SafeBlocks().bridgesBy(1), NONE);
    }

    private static void look() {
        promise = 30;
        SafeBlocks x = Webs.example();
        x.state(-9);
        int[] want = {10, 11, 3, 5, 2, 6, 4, 25, 1, -9, 7, 2};
        for (int what = 0; what < want.length; what++) {
            due("look(" + what + ")", x.look(what), want[what]);
        }
        due("look(12)", x.look(12), NONE - 9);
        due("look(-1)", x.look(-1), NONE - 9);
        due("look(greatest int)", x.look(Integer.MAX_VALUE), NONE - 9);
        // Three lands with bridges: the mends of all are added.
        x = Webs.grown(9, 0, 1, 2, 3, 4, 5, 4, 6, 4, 7);
        due("look(8)", x.look(8), 4);
        due("look(4)", x.look(4), 4);
    }

    private static void lookFull() {
        promise = 30;
        SafeBlocks x = Webs.path(32);
        due("look(7)", x.look(7), 496);
        due("look(11)", x.look(11), 31);
        due("look(6)", x.look(6), 30);
        due("look(10)", x.look(10), 0);
        x.link(31, 0);
        due("look(7)", x.look(7), 0);
        due("look(10)", x.look(10), 496);
        due("rain(32)", x.rain(32), 64);
        due("look(5)", x.look(5), 1);
        // With no room for a link what one more would do is told all the same.
        due("would(0, 9, 1)", x.would(0, 9, 1), 32);
        due("wouldName(0, 9, 0)", x.wouldName(0, 9, 0), 0);
    }
}
