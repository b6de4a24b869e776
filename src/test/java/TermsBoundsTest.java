/** Each sentence of the document's Terms that names a boundary case, with what it asks there. */
public final class TermsBoundsTest {
    private static final int NONE = -1;
    private static final int BRIDGE = NONE - 1;
    private static final Due due = new Due();

    public static void main(String[] args) {
        nodesAndLinks();
        landsBridgesBlocks();
        namesOfBlocks();
        namesOfLands();
        forest();
        forestTurned();
        forestShrunk();
        parts();
        cutsAndDoubleSafe();
        namesOfParts();
        since();
        wouldAndBest();
        mendAndMending();
        sidesWorstFrail();
        longestAndCentre();
        between();
        without();
        ring();
        undo();
        draw();
        lastCall();
        due.end();
    }

    // ---- 1

    private static void nodesAndLinks() {
        due.by("NODES 0 .. n less 1 (2 .. 32; 8 at first)");
        SafeBlocks x = new SafeBlocks();
        due.is("look(0) at first", x.look(0), 8);
        askEnds(x, 8);
        due.is("nodes(2)", x.nodes(2), true);
        due.is("look(0)", x.look(0), 2);
        askEnds(x, 2);
        x = new SafeBlocks();
        due.is("nodes(32)", x.nodes(32), true);
        due.is("look(0)", x.look(0), 32);
        askEnds(x, 32);
        due.is("nodes(1)", x.nodes(1), false);
        due.is("nodes(33)", x.nodes(33), false);
        due.is("look(0) as it was", x.look(0), 32);
        due.is("nodes(3)", x.nodes(3), true);
        askEnds(x, 3);
        due.is("nodes(31)", x.nodes(31), true);
        askEnds(x, 31);

        due.by("LINKS 0 .. m less 1 (64 at most; none at first)");
        x = new SafeBlocks();
        due.is("look(1) at first", x.look(1), 0);
        due.is("linkOf(0, 0) at first", x.linkOf(0, 0), NONE);
        x = Webs.bundle(3, 63);
        due.is("look(1)", x.look(1), 63);
        due.is("linkOf(62, 0)", x.linkOf(62, 0), 0);
        due.is("linkOf(63, 0)", x.linkOf(63, 0), NONE);
        due.is("the 64th", x.link(2, 0), BRIDGE);
        due.is("look(1)", x.look(1), 64);
        due.is("linkOf(63, 0)", x.linkOf(63, 0), 2);
        due.is("linkOf(64, 0)", x.linkOf(64, 0), NONE);
        due.is("linkOf(-1, 0)", x.linkOf(-1, 0), NONE);
        due.is("the 65th", x.link(2, 1), NONE);
        due.is("look(1)", x.look(1), 64);
        due.is("linkOf(63, 2)", x.linkOf(63, 2), 1);

        due.by("each between two unlike NODES");
        x = new SafeBlocks();
        for (int v = 0; v < 8; v++) {
            due.is("link(v, v)", x.link(v, v), NONE);
        }
        due.is("look(1)", x.look(1), 0);

        due.by("(several may be between the same)");
        due.is("link(3, 5)", x.link(3, 5), BRIDGE);
        due.is("link(3, 5) again", x.link(3, 5), 1);
        due.is("link(5, 3)", x.link(5, 3), 0);
        due.is("look(1)", x.look(1), 3);
        due.is("node(5, 2)", x.node(5, 2), 3);

        due.by("LINK l is the (l and 1)-th that came");
        x = new SafeBlocks();
        x.link(6, 2);
        x.link(2, 2);
        x.link(0, 8);
        x.link(1, 7);
        due.is("linkOf(0, 0)", x.linkOf(0, 0), 6);
        due.is("linkOf(0, 1)", x.linkOf(0, 1), 2);
        due.is("linkOf(1, 0)", x.linkOf(1, 0), 1);
        due.is("linkOf(1, 1)", x.linkOf(1, 1), 7);
        due.is("linkOf(2, 0)", x.linkOf(2, 0), NONE);
    }

    /** Calls that take a node, a block or a land, on an object without links: the last and the next. */
    private static void askEnds(SafeBlocks x, int n) {
        int last = n - 1;
        for (int out : new int[] {n, -1}) {
            due.is("node", x.node(out, 0), NONE);
            due.is("block", x.block(out, 0), NONE);
            due.is("member", x.member(out, 0), NONE);
            due.is("child", x.child(out, 0), NONE);
            due.is("land", x.land(out, 0), NONE);
            due.is("story", x.story(0, out, 4), NONE);
            due.is("story of a land", x.story(1, out, 4), NONE);
            due.is("doubleSafe", x.doubleSafe(out, 0), NONE);
            due.is("doubleSafe", x.doubleSafe(0, out), NONE);
            due.is("way", x.way(out, out, NONE), NONE);
            due.is("way", x.way(0, out, NONE), NONE);
            due.is("way", x.way(out, 0, NONE), NONE);
            due.is("since", x.since(0, out, 0), NONE);
            due.is("would", x.would(0, out, 1), NONE);
            due.is("would", x.would(out, 0, 1), NONE);
            due.is("wouldName", x.wouldName(0, out, 0), NONE);
            due.is("wouldName", x.wouldName(out, 0, 0), NONE);
            due.is("between", x.between(0, out, NONE), NONE);
            due.is("centre", x.centre(out), NONE);
            due.is("without", x.without(1, out, 0), NONE);
            due.is("link", x.link(0, out), NONE);
            due.is("link", x.link(out, 0), NONE);
        }
        due.is("node", x.node(last, 0), last);
        due.is("block", x.block(last, 0), 1);
        due.is("member", x.member(last, 0), last);
        due.is("land", x.land(last, 0), 1);
        due.is("story", x.story(0, last, 4), last);
        due.is("story of a land", x.story(1, last, 4), last);
        due.is("doubleSafe", x.doubleSafe(0, last), 0);
        due.is("way", x.way(last, last, NONE), 0);
        due.is("would", x.would(last, 0, 1), 1);
        due.is("wouldName", x.wouldName(last, 0, 0), last);
        due.is("centre", x.centre(last), last);
        due.is("without", x.without(1, last, 0), n);
        due.is("link", x.link(0, last), BRIDGE);
        due.is("link", x.link(last, 0), 1);
        due.is("undo", x.undo(2), 0);
    }

    private static void landsBridgesBlocks() {
        due.by("LANDS: NODES that are joined by LINKS (one alone is one)");
        SafeBlocks x = Webs.grown(5, 3, 1, 1, 4);
        due.is("look(4)", x.look(4), 3);
        due.is("land(0, 0)", x.land(0, 0), 1);
        due.is("land(2, 0)", x.land(2, 0), 1);
        due.is("land(1, 0)", x.land(1, 0), 3);
        due.is("node(3, 1)", x.node(3, 1), 1);
        due.is("node(4, 1)", x.node(4, 1), 1);
        due.is("node(2, 1)", x.node(2, 1), 2);

        due.by("A BRIDGE: a LINK without which its ends would be in unlike LANDS");
        due.is("linkOf(0, 2)", x.linkOf(0, 2), 1);
        due.is("linkOf(1, 2)", x.linkOf(1, 2), 1);
        x.link(1, 3);
        due.is("two links: linkOf(0, 2)", x.linkOf(0, 2), 0);
        due.is("two links: linkOf(2, 2)", x.linkOf(2, 2), 0);
        due.is("linkOf(1, 2)", x.linkOf(1, 2), 1);
        x = Webs.round(3);
        due.is("round of three", x.bridge(NONE), 0);
        due.is("path of three", Webs.path(3).bridge(NONE), 2);

        due.by("BLOCKS: NODES that are joined by LINKS that are no BRIDGES (one alone is one)");
        x = Webs.grown(6, 0, 1, 1, 0, 1, 2, 3, 4, 4, 3, 2, 3);
        due.is("look(3)", x.look(3), 4);
        due.is("node(2, 0) alone", x.node(2, 0), 2);
        due.is("block(2, 0)", x.block(2, 0), 1);
        due.is("block(0, 0)", x.block(0, 0), 2);
        due.is("block(3, 0)", x.block(3, 0), 2);
        due.is("block(5, 0) without links", x.block(5, 0), 1);
    }

    private static void namesOfBlocks() {
        due.by("at first each NODE is a BLOCK and a LAND, and its number is the NAME of both");
        SafeBlocks x = new SafeBlocks();
        x.nodes(32);
        for (int v = 0; v < 32; v++) {
            due.is("node(v, 0)", x.node(v, 0), v);
            due.is("node(v, 1)", x.node(v, 1), v);
            due.is("story(0, v, 0)", x.story(0, v, 0), 1);
            due.is("story(1, v, 0)", x.story(1, v, 0), 1);
        }

        due.by("the one of them with the most NODES, of several the least NAME, gives it its NAME");
        // Blocks 5 (5, 6), 2 (2, 3) and 1 on one way: 5 and 2 have the most nodes, 1 the least name.
        x = Webs.grown(8, 5, 6, 6, 5, 2, 3, 3, 2, 6, 2, 3, 1);
        due.is("link(1, 5)", x.link(1, 5), 2);
        for (int v : new int[] {1, 2, 3, 5, 6}) {
            due.is("node(v, 0)", x.node(v, 0), 2);
        }
        // One node more is enough, whatever the name: 4 (4, 5, 6) and 0 (0, 1).
        x = Webs.grown(8, 4, 5, 5, 6, 6, 4, 0, 1, 1, 0, 1, 4);
        x.link(6, 0);
        due.is("node(0, 0)", x.node(0, 0), 4);
        due.is("story(0, 0, 2)", x.story(0, 0, 2), 4);
        // The nodes count, not the links: 3 (3, 4) with three links, 0 (0, 1) with two.
        x = Webs.grown(8, 3, 4, 4, 3, 3, 4, 0, 1, 1, 0, 1, 3);
        x.link(4, 0);
        due.is("node(3, 0)", x.node(3, 0), 0);

        due.by("the others' NAMES END by that LINK, INTO that one");
        x = Webs.grown(8, 5, 6, 6, 5, 2, 3, 3, 2, 6, 2, 3, 1, 1, 5);
        due.whats("story(0, 1)", NONE, what -> ofStory(0, 1, what), 0, 6, 2, 1, 2);
        due.whats("story(0, 2)", NONE, what -> ofStory(0, 2, what), 1, NONE, NONE, 5, 2);
        due.whats("story(0, 3)", NONE, what -> ofStory(0, 3, what), 0, 3, 2, 1, 2);
        due.whats("story(0, 5)", NONE, what -> ofStory(0, 5, what), 0, 6, 2, 2, 2);
        due.whats("story(0, 6)", NONE, what -> ofStory(0, 6, what), 0, 1, 5, 1, 2);
        due.is("block(5, 0)", x.block(5, 0), NONE);
        due.is("block(2, 0)", x.block(2, 0), 5);
    }

    /** Blocks 5, 2 and 1 of the run above, made one by link 6. */
    private static int ofStory(int kind, int name, int what) {
        return Webs.grown(8, 5, 6, 6, 5, 2, 3, 3, 2, 6, 2, 3, 1, 1, 5).story(kind, name, what);
    }

    private static void namesOfLands() {
        due.by("LANDS likewise (by NAMES of their own)");
        due.whats("story(1, 1)", NONE, what -> ofStory(1, 1, what), 0, 5, 2, 1, 2);
        due.whats("story(1, 2)", NONE, what -> ofStory(1, 2, what), 1, NONE, NONE, 5, 2);
        due.whats("story(1, 3)", NONE, what -> ofStory(1, 3, what), 0, 2, 2, 1, 2);
        due.whats("story(1, 5)", NONE, what -> ofStory(1, 5, what), 0, 4, 2, 2, 2);
        due.whats("story(1, 6)", NONE, what -> ofStory(1, 6, what), 0, 0, 5, 1, 2);
        // Land 2 ends by link 2, block 2 never does.
        SafeBlocks x = Webs.grown(4, 3, 2, 1, 0, 2, 0);
        due.is("node(2, 1)", x.node(2, 1), 0);
        due.is("node(2, 0)", x.node(2, 0), 2);
        due.is("story(1, 2, 1)", x.story(1, 2, 1), 2);
        due.is("story(0, 2, 1)", x.story(0, 2, 1), NONE);
        // The most nodes, whatever the name and the end.
        x = Webs.grown(5, 4, 3, 3, 2, 0, 1, 1, 2);
        due.is("node(0, 1)", x.node(0, 1), 3);
        due.is("story(1, 0, 2)", x.story(1, 0, 2), 3);
    }

    private static void forest() {
        due.by("or none: a ROOT, one in each LAND");
        SafeBlocks x = Webs.example();
        for (int name = 0; name < 10; name++) {
            if (x.block(name, 0) != NONE) {
                boolean root = name == 4 || name == 9;
                due.is("block(" + name + ", 4)", x.block(name, 4) == NONE, root);
                due.is("block(" + name + ", 5)", x.block(name, 5) == NONE, root);
            }
        }
        due.is("land(4, 4)", x.land(4, 4), 4);
        due.is("land(9, 4)", x.land(9, 4), 9);

        due.by("At first all are ROOTS");
        x = new SafeBlocks();
        for (int v = 0; v < 8; v++) {
            due.is("block(v, 4)", x.block(v, 4), NONE);
            due.is("block(v, 5)", x.block(v, 5), NONE);
            due.is("land(v, 4)", x.land(v, 4), v);
            due.is("child(v, 0)", x.child(v, 0), NONE);
        }

        due.by("DEEP of a BLOCK: how many BRIDGES are on its way up to the ROOT");
        x = Webs.path(32);
        due.is("block(0, 6)", x.block(0, 6), 0);
        due.is("block(1, 6)", x.block(1, 6), 1);
        due.is("block(31, 6)", x.block(31, 6), 31);
        x.link(10, 5);
        due.is("five bridges less", x.block(31, 6), 26);
        due.is("the block itself", x.node(10, 6), 5);

        due.by("within a BLOCK: nothing changes");
        x = Webs.example();
        due.is("link(4, 6)", x.link(4, 6), 0);
        SafeBlocks ahead = Webs.example();
        for (int name = 0; name < 10; name++) {
            for (int what : new int[] {0, 1, 3, 4, 5, 6, 7, 10}) {
                due.is("block(" + name + ", " + what + ")", x.block(name, what), ahead.block(name, what));
            }
            for (int what = 0; what < 5; what++) {
                due.is("story(0, ..)", x.story(0, name, what), ahead.story(0, name, what));
                due.is("story(1, ..)", x.story(1, name, what), ahead.story(1, name, what));
            }
        }
    }

    private static void forestTurned() {
        due.by("between NODES of unlike LANDS: it is a BRIDGE");
        due.is("link(0, 31)", Webs.grown(32).link(0, 31), BRIDGE);
        SafeBlocks x = Webs.grown(6, 0, 1, 1, 0, 3, 4, 4, 3);
        due.is("link(1, 3)", x.link(1, 3), BRIDGE);
        due.is("linkOf(4, 2)", x.linkOf(4, 2), 1);

        due.by("The LAND with fewer NODES, of like ones that with the greater NAME, is TURNED");
        // The nodes count, not the blocks: land 0 (0, 1, 2: three blocks), land 4 (4 .. 7: one).
        x = Webs.grown(9, 4, 5, 5, 6, 6, 7, 7, 4, 0, 1, 1, 2, 2, 6);
        due.is("latest(0)", x.latest(0), 3);
        due.is("land(4, 4)", x.land(4, 4), 4);
        due.is("block(2, 4)", x.block(2, 4), 4);
        due.is("block(1, 4)", x.block(1, 4), 2);
        due.is("block(0, 4)", x.block(0, 4), 1);
        // Like ones, the end of the greater name first and second.
        x = Webs.grown(4, 0, 1, 2, 3, 3, 1);
        due.is("block(3, 4)", x.block(3, 4), 1);
        due.is("land(0, 4)", x.land(0, 4), 0);
        x = Webs.grown(4, 0, 1, 2, 3, 1, 3);
        due.is("block(3, 4)", x.block(3, 4), 1);
        due.is("land(0, 4)", x.land(0, 4), 0);
        // One node fewer, with the lesser name, first and second.
        x = Webs.grown(5, 0, 1, 2, 3, 3, 4, 1, 4);
        due.is("block(1, 4)", x.block(1, 4), 4);
        due.is("block(0, 4)", x.block(0, 4), 1);
        due.is("land(2, 4)", x.land(2, 4), 2);
        x = Webs.grown(5, 0, 1, 2, 3, 3, 4, 4, 1);
        due.is("block(1, 4)", x.block(1, 4), 4);
        due.is("land(2, 4)", x.land(2, 4), 2);

        due.by("from the BLOCK of its end of the LINK up to its ROOT each becomes the PARENT of what was"
            + " its PARENT (by the same BRIDGE)");
        // Land 0 with root 0, 1 and 2 below it, 3 below 1, 4 below 3: turned at 3.
        x = Webs.grown(12, 0, 1, 0, 2, 1, 3, 3, 4, 6, 7, 7, 8, 8, 9, 9, 10, 10, 11, 3, 8);
        due.is("land(6, 4)", x.land(6, 4), 6);
        due.row("up from 0", i -> upFromNode(i, 4), 1, 3, 0, 8, 3);
        due.row("up links", i -> upFromNode(i, 5), 0, 2, 1, 9, 3);
        due.is("latest(0)", x.latest(0), 3);
        due.is("what hangs aside stays", x.block(2, 6), 6);

        due.by("that BLOCK's PARENT is that of the LINK's other end, its UP LINK this one");
        due.is("block(3, 4)", x.block(3, 4), 8);
        due.is("block(3, 5)", x.block(3, 5), 9);
        due.is("a ROOT is TURNED, too", Webs.grown(3, 0, 1).block(1, 5), 0);
    }

    /** Parents (4) and up links (5) of the nodes 0 to 4 of the land turned above. */
    private static int upFromNode(int i, int what) {
        SafeBlocks x = Webs.grown(12, 0, 1, 0, 2, 1, 3, 3, 4, 6, 7, 7, 8, 8, 9, 9, 10, 10, 11, 3, 8);
        return i < 5 ? x.block(i, what) : NONE;
    }

    private static void forestShrunk() {
        due.by("the BLOCKS on the way between both in THE FOREST (both, too) become one");
        SafeBlocks x = Webs.grown(8, 0, 1, 1, 2, 2, 3, 1, 4, 4, 5);
        due.is("link(3, 5)", x.link(3, 5), 4);
        due.is("latest(1)", x.latest(1), 5);
        due.row("member(1)", i -> Webs.grown(8, 0, 1, 1, 2, 2, 3, 1, 4, 4, 5, 3, 5).member(1, i),
            1, 2, 3, 4, 5);
        due.is("node(0, 0) is none of them", x.node(0, 0), 0);
        x = Webs.path(32);
        due.is("all of 32", x.link(0, 31), 31);
        due.is("latest(1)", x.latest(1), 32);

        due.by("its PARENT and UP LINK are those of that one of them that is the nearest to the ROOT");
        x = Webs.grown(8, 0, 1, 1, 2, 2, 3, 1, 4, 4, 5, 3, 5);
        due.is("block(1, 4)", x.block(1, 4), 0);
        due.is("block(1, 5)", x.block(1, 5), 0);
        // The ROOT itself is one of them: none.
        x = Webs.grown(8, 0, 1, 1, 2, 2, 3, 3, 1, 3, 0);
        due.is("node(0, 0) by the most nodes", x.node(0, 0), 1);
        due.is("block(1, 4)", x.block(1, 4), NONE);
        due.is("block(1, 5)", x.block(1, 5), NONE);
        due.is("land(0, 4)", x.land(0, 4), 1);
        // One below the other: the upper one's.
        x = Webs.grown(8, 0, 1, 1, 2, 2, 1);
        due.is("block(1, 4)", x.block(1, 4), 0);
        due.is("block(1, 5)", x.block(1, 5), 0);

        due.by("what had one of them as PARENT has it");
        x = Webs.grown(10, 0, 1, 1, 2, 2, 3, 3, 4, 2, 5, 1, 6, 4, 7, 3, 1);
        due.is("block(1, 0)", x.block(1, 0), 3);
        due.is("block(1, 7)", x.block(1, 7), 3);
        due.is("block(4, 4)", x.block(4, 4), 1);
        due.is("block(5, 4)", x.block(5, 4), 1);
        due.is("block(6, 4)", x.block(6, 4), 1);
        due.is("block(7, 4) had another", x.block(7, 4), 4);
        due.is("block(5, 5) by the same link", x.block(5, 5), 4);

        due.by("The BRIDGES between them are none any more");
        due.is("look(2)", x.look(2), 5);
        for (int l = 0; l < 8; l++) {
            due.is("linkOf(" + l + ", 2)", x.linkOf(l, 2), l == 1 || l == 2 || l == 7 ? 0 : 1);
        }
    }

    // ---- 2

    private static void parts() {
        due.by("two LINKS are in one PART if some ring goes along both (a ring is at no NODE twice; two"
            + " LINKS between the same NODES are one)");
        SafeBlocks x = Webs.grown(5, 0, 1, 1, 2, 2, 0, 2, 3, 3, 4, 4, 2);
        due.is("two triangles at one node", x.look(5), 2);
        due.is("linkOf(0, 4)", x.linkOf(0, 4), x.linkOf(2, 4));
        due.is("linkOf(3, 4)", x.linkOf(3, 4), x.linkOf(5, 4));
        due.is("linkOf(2, 4)", x.linkOf(2, 4), 0);
        due.is("linkOf(3, 4)", x.linkOf(3, 4), 1);
        x.link(1, 3);
        due.is("one, past the node", x.look(5), 1);
        due.is("two links between the same", Webs.bundle(2, 2).look(5), 1);
        due.is("three links between the same", Webs.bundle(2, 3).look(5), 1);
        // Two bundles that share a node are two rings, and no ring goes along both.
        due.is("two bundles", Webs.grown(3, 0, 1, 1, 0, 1, 2, 2, 1).look(5), 2);

        due.by("a LINK on no ring is a PART of its own");
        x = Webs.path(32);
        due.is("look(5)", x.look(5), 31);
        for (int l = 0; l < 31; l++) {
            due.is("linkOf(l, 4)", x.linkOf(l, 4), l);
            due.is("part(l, 0)", x.part(l, 0), 1);
        }

        due.by("They are numbered by their least LINKS");
        // Links 0 and 3 are one part, then 1, 2, 4.
        x = Webs.grown(8, 0, 1, 2, 3, 4, 5, 1, 0, 6, 7);
        int[] want = {0, 1, 2, 0, 3};
        for (int l = 0; l < 5; l++) {
            due.is("linkOf(" + l + ", 4)", x.linkOf(l, 4), want[l]);
        }
        due.is("part(3, 2)", x.part(3, 2), 4);
        due.is("part(4, 2)", x.part(4, 2), NONE);
        // The least link counts, not the name: links 1 to 4 give part 1 its name, 0 is the least.
        x = Webs.grown(5, 0, 1, 1, 2, 2, 3, 3, 1, 3, 0);
        due.is("linkOf(4, 7)", x.linkOf(4, 7), 1);
        due.is("linkOf(4, 4)", x.linkOf(4, 4), 0);
        due.is("part(0, 2)", x.part(0, 2), 0);
        // The last link of 64 as a part alone.
        x = Webs.bundle(3, 63);
        x.link(0, 2);
        due.is("linkOf(63, 4)", x.linkOf(63, 4), 1);
        due.is("linkOf(63, 7)", x.linkOf(63, 7), 63);
        due.is("part(1, 0)", x.part(1, 0), 1);
        due.is("part(1, 1)", x.part(1, 1), 2);
        due.is("part(1, 2)", x.part(1, 2), 63);
        due.is("part(0, 1)", x.part(0, 1), 2);
        due.is("land(0, 10)", x.land(0, 10), 2);
        due.is("look(5)", x.look(5), 2);
    }

    private static void cutsAndDoubleSafe() {
        due.by("A NODE is a CUT if it is at LINKS of two PARTS or more");
        SafeBlocks x = Webs.example();
        for (int v = 0; v < 10; v++) {
            due.is("node(" + v + ", 5)", x.node(v, 5), v == 1 || v == 4 || v == 6 || v == 7 ? 1 : 0);
        }
        due.is("one part, many links", Webs.bundle(2, 64).node(0, 5), 0);
        due.is("no link", new SafeBlocks().node(0, 5), 0);
        due.is("one link", Webs.path(2).node(0, 5), 0);
        due.is("two parts", Webs.path(3).node(1, 5), 1);
        due.is("many parts", Webs.star(32).node(0, 5), 1);
        due.is("many parts, how many", Webs.star(32).node(0, 4), 31);
        x = Webs.bundle(3, 63);
        x.link(2, 0);
        due.is("the last link's part", x.node(0, 5), 1);
        due.is("the last link's part", x.node(1, 5), 0);

        due.by("TWO NODES are DOUBLE-SAFE if some ring is at both");
        due.is("by two links", Webs.bundle(2, 2).doubleSafe(0, 1), 1);
        due.is("by one link", Webs.path(2).doubleSafe(0, 1), 0);
        due.is("across a round of 32", Webs.round(32).doubleSafe(0, 16), 1);
        // One block, but past one node alone.
        x = Webs.grown(5, 0, 1, 1, 2, 2, 0, 2, 3, 3, 4, 4, 2);
        due.is("doubleSafe(0, 3)", x.doubleSafe(0, 3), 0);
        due.is("doubleSafe(0, 2)", x.doubleSafe(0, 2), 1);
        due.is("doubleSafe(2, 3)", x.doubleSafe(2, 3), 1);
        due.is("not in one land", Webs.example().doubleSafe(9, 4), 0);
    }

    private static void namesOfParts() {
        due.by("a LINK, as it comes, is a PART with its number as NAME");
        SafeBlocks x = Webs.path(32);
        for (int l = 0; l < 31; l++) {
            due.is("linkOf(l, 7)", x.linkOf(l, 7), l);
            due.is("story(2, l, 0)", x.story(2, l, 0), 1);
        }
        due.is("story(2, 31, 0)", x.story(2, 31, 0), NONE);

        due.by("makes it several PARTS one (itself is one of these), the one of them with the most LINKS,"
            + " of several the least NAME, gives it its NAME");
        // Two links alike: the lesser of both, not the one that comes.
        x = Webs.grown(4, 2, 3, 0, 1, 1, 0);
        due.is("linkOf(2, 7)", x.linkOf(2, 7), 1);
        // Parts 0 (one link), 1 (1, 2, 3) and 4 (4, 5, 6) become one by link 7: of 1 and 4 the least.
        x = Webs.grown(8, 0, 1, 1, 2, 2, 3, 3, 1, 3, 4, 4, 5, 5, 3);
        due.is("parts ahead of it", x.look(5), 3);
        x.link(5, 0);
        due.is("look(5)", x.look(5), 1);
        due.is("linkOf(0, 7)", x.linkOf(0, 7), 1);
        due.is("story(2, 1, 3)", x.story(2, 1, 3), 8);

        due.by("the others' NAMES END by that LINK, INTO that one");
        due.whats("story(2, 0)", NONE, what -> ofPart(0, what), 0, 7, 1, 1, 1);
        due.whats("story(2, 1)", NONE, what -> ofPart(1, what), 1, NONE, NONE, 8, 1);
        due.whats("story(2, 2)", NONE, what -> ofPart(2, what), 0, 3, 1, 1, 1);
        due.whats("story(2, 3)", NONE, what -> ofPart(3, what), 0, 3, 1, 1, 1);
        due.whats("story(2, 4)", NONE, what -> ofPart(4, what), 0, 7, 1, 3, 1);
        due.whats("story(2, 6)", NONE, what -> ofPart(6, what), 0, 6, 4, 1, 1);
        due.whats("story(2, 7)", NONE, what -> ofPart(7, what), 0, 7, 1, 1, 1);
        due.whats("story(2, 8)", NONE, what -> ofPart(8, what));
        // Within a part the link that comes ends at once.
        x = Webs.bundle(2, 64);
        due.is("story(2, 63, 1)", x.story(2, 63, 1), 63);
        due.is("story(2, 63, 2)", x.story(2, 63, 2), 0);
        due.is("story(2, 0, 3)", x.story(2, 0, 3), 64);
    }

    private static int ofPart(int name, int what) {
        return Webs.grown(8, 0, 1, 1, 2, 2, 3, 3, 1, 3, 4, 4, 5, 5, 3, 5, 0).story(2, name, what);
    }

    private static void since() {
        due.by("SINCE: of two unlike NODES the fewest LINKS from the first one on by which they were in"
            + " one LAND, in one BLOCK, DOUBLE-SAFE");
        // Link 0 elsewhere; 0-1 by link 1, 1-2 by 2, 2-3 by 3, 3-1 by 4, 3-0 by 5.
        int[] ends = {4, 5, 0, 1, 1, 2, 2, 3, 3, 1, 3, 0};
        SafeBlocks x = Webs.grown(8, ends);
        int[][] pairs = {{0, 1, 2, 6, 6}, {1, 2, 3, 5, 5}, {2, 3, 4, 5, 5}, {0, 2, 3, 6, 6}, {0, 3, 4, 6, 6}};
        for (int[] pair : pairs) {
            for (int kind = 0; kind < 3; kind++) {
                due.is("since", x.since(pair[0], pair[1], kind), pair[2 + kind]);
                due.is("since to and fro", x.since(pair[1], pair[0], kind), pair[2 + kind]);
                due.is("by so many", isSo(pair[2 + kind], pair[0], pair[1], kind, ends), true);
                due.is("not by fewer", isSo(pair[2 + kind] - 1, pair[0], pair[1], kind, ends), false);
            }
        }
        // The first link and the last one of 64.
        due.is("by the first", Webs.bundle(3, 63).since(0, 1, 0), 1);
        due.is("by the second", Webs.bundle(3, 63).since(1, 0, 1), 2);
        x = Webs.bundle(3, 62);
        Webs.link(x, 0, 2, 2, 1);
        due.is("by the last but one", x.since(2, 1, 0), 63);
        due.is("by the last", x.since(2, 1, 1), 64);
        due.is("by the last", x.since(2, 1, 2), 64);
        // One block by link 6, double-safe by link 7 only.
        x = Webs.grown(5, 0, 1, 1, 2, 2, 0, 2, 3, 3, 4, 4, 2, 1, 3);
        due.is("since(0, 4, 0)", x.since(0, 4, 0), 5);
        due.is("since(0, 4, 1)", x.since(0, 4, 1), 6);
        due.is("since(0, 4, 2)", x.since(0, 4, 2), 7);
        sinceOverNames();
    }

    /** Parts at node 2: 13 goes into 9 by link 16, 9 into 0 by link 17. */
    private static void sinceOverNames() {
        SafeBlocks x = Webs.grown(8, 0, 1, 1, 2, 2, 3, 3, 0, 0, 1, 0, 1, 0, 1, 1, 2, 1, 2,
            2, 4, 4, 5, 5, 2, 4, 5, 2, 6, 6, 7, 7, 2, 7, 4, 5, 3);
        due.is("story(2, 13, 2)", x.story(2, 13, 2), 9);
        due.is("story(2, 13, 1)", x.story(2, 13, 1), 16);
        due.is("story(2, 9, 2)", x.story(2, 9, 2), 0);
        due.is("story(2, 9, 1)", x.story(2, 9, 1), 17);
        due.is("since(1, 6, 2)", x.since(1, 6, 2), 18);
        due.is("since(6, 1, 2)", x.since(6, 1, 2), 18);
        due.is("since(1, 4, 2)", x.since(1, 4, 2), 18);
        due.is("since(4, 1, 2)", x.since(4, 1, 2), 18);
        due.is("since(4, 6, 2)", x.since(4, 6, 2), 17);
        due.is("since(6, 4, 2)", x.since(6, 4, 2), 17);
        due.is("since(4, 5, 2)", x.since(4, 5, 2), 12);
        due.is("since(1, 6, 1)", x.since(1, 6, 1), 16);
    }

    /** Whether with the first links alone two nodes are so. */
    private static boolean isSo(int links, int u, int v, int kind, int... ends) {
        SafeBlocks x = new SafeBlocks();
        for (int l = 0; l < links; l++) {
            x.link(ends[2 * l], ends[2 * l + 1]);
        }
        if (kind == 2) {
            return x.doubleSafe(u, v) == 1;
        }
        return x.node(u, 1 - kind) == x.node(v, 1 - kind);
    }

    private static void wouldAndBest() {
        due.by("WOULD of two unlike NODES, if a LINK came between them");
        for (int u = 0; u < 10; u++) {
            for (int v = 0; v < 10; v++) {
                if (u != v) {
                    SafeBlocks x = Webs.example();
                    int bridges = x.would(u, v, 0);
                    int nodes = x.would(u, v, 1);
                    int block = x.wouldName(u, v, 0);
                    int land = x.wouldName(u, v, 1);
                    int came = x.link(u, v);
                    due.is("would(" + u + ", " + v + ", 0)", bridges, came == BRIDGE ? 0 : came);
                    due.is("would(" + u + ", " + v + ", 1)", nodes, x.block(x.node(u, 0), 0));
                    due.is("wouldName(" + u + ", " + v + ", 0)", block, x.node(u, 0));
                    due.is("wouldName(" + u + ", " + v + ", 1)", land, x.node(u, 1));
                }
            }
        }
        SafeBlocks full = Webs.grown(32);
        full.rain(64);
        due.is("would(0, 31, 0) with 64", full.would(0, 31, 0) != NONE, true);

        due.by("BEST: that pair (the lesser first) by which the most BRIDGES would be none, of several the"
            + " first");
        due.whats("path of 32", NONE, Webs.path(32)::best, 31, 0, 31);
        due.whats("star of 4", NONE, Webs.star(4)::best, 2, 1, 2);
        due.whats("like ones", NONE, Webs.grown(6, 5, 4, 3, 2)::best, 1, 2, 3);
        // The lesser is the first one told, whatever came first: 4 and 1 are the ends.
        due.whats("ends 4 and 1", NONE, Webs.grown(6, 4, 0, 0, 1)::best, 2, 1, 4);
        // Ends of many nodes: blocks 2 (2, 5) and 3 (3, 4) with 0 and 1 between.
        due.whats("of blocks the least nodes", NONE,
            Webs.grown(6, 2, 5, 5, 2, 3, 4, 4, 3, 5, 1, 1, 0, 0, 4)::best, 3, 2, 3);
        due.whats("no BRIDGES", NONE, what -> Webs.round(32).best(what));
    }

    private static void mendAndMending() {
        due.by("with l BLOCKS at which just one BRIDGE is: half of l and 1, rounded down (0 without"
            + " BRIDGES)");
        int[] mends = {1, 2, 2, 3, 3, 4, 4};
        for (int l = 2; l < 9; l++) {
            // Node 0 in the middle is no end itself.
            due.is(l + " ends", Webs.star(l + 1).land(0, 5), mends[l - 2]);
        }
        due.is("two ends, one bridge", Webs.path(2).land(0, 5), 1);
        due.is("two ends, 31 bridges", Webs.path(32).land(0, 5), 1);
        due.is("31 ends", Webs.star(32).land(0, 5), 16);
        due.is("one alone", new SafeBlocks().land(7, 5), 0);
        due.is("one round", Webs.round(32).land(0, 5), 0);
        due.is("an end of many nodes", Webs.example().land(4, 5), 1);

        due.by("MENDING of a LAND: its BLOCKS at which just one BRIDGE is, in a row (from the ROOT on; each"
            + " BLOCK ahead of those that have it as PARENT, these by their NAMES, rising, each with all"
            + " below it)");
        // Root 3 with 1, 4 and 5 below it, 6 and 7 below 1, 2 below 4: the row 6, 7, 2, 5.
        SafeBlocks x = Webs.grown(8, 3, 5, 3, 4, 3, 1, 1, 7, 1, 6, 4, 2);
        due.is("land(3, 4)", x.land(3, 4), 3);
        askMending(x, 3, 6, 2, 7, 5);
        // The root is at one bridge only: it is the first.
        askMending(Webs.path(4), 0, 0, 3);
        askMending(Webs.grown(4, 0, 1, 1, 3, 1, 2), 0, 0, 2, 2, 3);

        due.by("with l of them LINKS k from 0 on, as many as MEND tells: between the least NODE of the k-th"
            + " BLOCK (0 the first) and that of the one that is half of l (rounded down) behind it");
        askMending(Webs.star(3), 0, 1, 2);
        askMending(Webs.star(4), 0, 1, 2, 2, 3);
        askMending(Webs.star(5), 0, 1, 3, 2, 4);
        askMending(Webs.star(6), 0, 1, 3, 2, 4, 3, 5);
        int[] ends = new int[32];
        for (int k = 0; k < 16; k++) {
            ends[2 * k] = k + 1;
            ends[2 * k + 1] = k + 16;
        }
        askMending(Webs.star(32), 0, ends);
        // Of block 4 (0, 4, 5) its least node is told, not its name.
        x = Webs.grown(6, 4, 5, 5, 4, 0, 5, 0, 4, 0, 3);
        due.is("node(0, 0)", x.node(0, 0), 4);
        askMending(x, 4, 0, 3);
        // By these links no bridge is left.
        for (int n = 3; n < 30; n++) {
            x = Webs.star(n);
            int most = x.land(0, 5);
            int[] all = new int[2 * most];
            for (int k = 0; k < 2 * most; k++) {
                all[k] = x.mending(0, k / 2, k % 2);
            }
            Webs.link(x, all);
            due.is("bridges of a star when mended", x.look(2), 0);
        }
    }

    /** All links of a mending, two by two, and none behind them. */
    private static void askMending(SafeBlocks x, int land, int... ends) {
        int links = ends.length / 2;
        due.is("so many as MEND tells", x.land(land, 5), links);
        for (int k = 0; k < links; k++) {
            due.is("mending k " + k + " first", x.mending(land, k, 0), ends[2 * k]);
            due.is("mending k " + k + " other", x.mending(land, k, 1), ends[2 * k + 1]);
            due.is("mending k " + k + " what 2", x.mending(land, k, 2), NONE);
            due.is("mending k " + k + " what -1", x.mending(land, k, -1), NONE);
        }
        for (int what = 0; what < 2; what++) {
            due.is("mending behind the last", x.mending(land, links, what), NONE);
            due.is("mending ahead of the first", x.mending(land, -1, what), NONE);
        }
    }

    private static void sidesWorstFrail() {
        due.by("SIDES of a BRIDGE: NODES of both LANDS that there would be without it (the side of its"
            + " first NODE, of its second one)");
        SafeBlocks x = Webs.path(32);
        for (int l = 0; l < 31; l++) {
            due.is("linkOf(" + l + ", 5)", x.linkOf(l, 5), l + 1);
            due.is("linkOf(" + l + ", 6)", x.linkOf(l, 6), 31 - l);
        }
        x = Webs.grown(4, 1, 0, 0, 2, 3, 2);
        due.is("linkOf(0, 5)", x.linkOf(0, 5), 1);
        due.is("linkOf(0, 6)", x.linkOf(0, 6), 3);
        due.is("linkOf(2, 5) its second is the upper", x.linkOf(2, 5), 1);
        due.is("linkOf(2, 6)", x.linkOf(2, 6), 3);

        due.by("WORST: the BRIDGE with the greatest product of its SIDES, the first");
        due.whats("path of 32", NONE, Webs.path(32)::worst, 15, 256);
        due.whats("path of 3: two alike", NONE, Webs.path(3)::worst, 0, 2);
        due.whats("path of 4", NONE, Webs.path(4)::worst, 1, 4);
        due.whats("one", NONE, Webs.path(2)::worst, 0, 1);
        due.whats("two lands alike", NONE, Webs.grown(6, 4, 5, 0, 1)::worst, 0, 1);
        due.whats("the greatest comes last", NONE, Webs.grown(6, 0, 1, 2, 3, 1, 2)::worst, 2, 4);
        due.whats("no BRIDGES", NONE, what -> Webs.round(32).worst(what));

        due.by("FRAIL: pairs of NODES that are in one LAND, but not in one BLOCK");
        due.is("no links", new SafeBlocks().look(7), 0);
        due.is("one link", Webs.path(2).look(7), 1);
        due.is("path of 32", Webs.path(32).look(7), 496);
        due.is("round of 32", Webs.round(32).look(7), 0);
        due.is("example", Webs.example().look(7), 25);
    }

    private static void longestAndCentre() {
        due.by("LONGEST of a LAND: the greatest number of BRIDGES on a way between two of its BLOCKS, and the"
            + " BLOCKS at the ends (NAMES; of several pairs the one with the least lesser NAME, then the"
            + " least other one)");
        askLongest(Webs.path(32), 0, 31, 0, 31);
        askLongest(Webs.path(2), 0, 1, 0, 1);
        askLongest(Webs.star(5), 0, 2, 1, 2);
        // One BLOCK: it is both ends.
        askLongest(Webs.grown(8), 7, 0, 7, 7);
        askLongest(Webs.round(32), 0, 0, 0, 0);
        // Pairs 1-6, 2-3, 2-6, 1-3 around 5: 1 and 2 on one side, 3 and 6 on the other.
        askLongest(Webs.grown(8, 5, 4, 5, 7, 4, 1, 4, 2, 7, 6, 7, 3), 4, 4, 1, 3);
        // NAMES, not NODES: block 4 (0, 4, 5) and block 2.
        askLongest(Webs.grown(6, 4, 5, 5, 4, 0, 5, 0, 4, 0, 2), 4, 1, 2, 4);
        askLongest(Webs.example(), 4, 3, 0, 8);

        due.by("CENTRE of a LAND: the BLOCK from which the farthest BLOCK of it is the fewest BRIDGES away,"
            + " of several the least NAME");
        due.is("one alone", new SafeBlocks().centre(7), 7);
        due.is("path of 2", Webs.path(2).centre(0), 0);
        due.is("path of 3", Webs.path(3).centre(0), 1);
        due.is("path of 32", Webs.path(32).centre(0), 15);
        due.is("star of 32", Webs.star(32).centre(0), 0);
        // 6 and 1 are in the middle; 1 is farther from the root, but less.
        due.is("of several", Webs.grown(8, 5, 6, 6, 1, 1, 7).centre(5), 1);
        due.is("another land", Webs.grown(8, 5, 6, 6, 1, 1, 7).centre(4), 4);
        due.is("round of 32", Webs.round(32).centre(0), 0);
    }

    private static void askLongest(SafeBlocks x, int land, int many, int lesser, int other) {
        due.is("land(" + land + ", 7)", x.land(land, 7), many);
        due.is("land(" + land + ", 8)", x.land(land, 8), lesser);
        due.is("land(" + land + ", 9)", x.land(land, 9), other);
    }

    private static void between() {
        due.by("BETWEEN of two unlike NODES u, v of one LAND: other NODES without which (and their LINKS) u"
            + " and v would be in unlike LANDS, as a way from u to v comes to them");
        int[] all = new int[30];
        int[] back = new int[30];
        for (int i = 0; i < 30; i++) {
            all[i] = i + 1;
            back[i] = 30 - i;
        }
        due.counted("between(0, 31)", i -> Webs.path(32).between(0, 31, i), all);
        due.counted("between(31, 0)", i -> Webs.path(32).between(31, 0, i), back);
        due.counted("the ends are none", i -> Webs.path(32).between(7, 8, i));
        due.counted("one", i -> Webs.path(32).between(9, 7, i), 8);
        due.counted("round", i -> Webs.round(32).between(0, 16, i));
        due.counted("by two links", i -> Webs.bundle(2, 2).between(0, 1, i));
        due.counted("within a block", i -> Webs.example().between(5, 3, i), 4);
        due.counted("through blocks", i -> Webs.example().between(0, 8, i), 1, 4, 6, 7);
        due.noRow("no LAND in common", i -> Webs.example().between(9, 8, i));
        due.noRow("one NODE", i -> Webs.example().between(4, 4, i));
    }

    private static void without() {
        due.by("WITHOUT a LINK, or a NODE (that is, without its LINKS): how many LANDS, BLOCKS, BRIDGES,"
            + " PARTS there would be");
        SafeBlocks x = Webs.star(32);
        due.whats("the middle of 32", NONE, what -> x.without(1, 0, what), 32, 32, 0, 0);
        due.whats("an end of 32", NONE, what -> x.without(1, 31, what), 2, 32, 30, 30);
        due.whats("a bridge of 31", NONE, what -> x.without(0, 30, what), 2, 32, 30, 30);
        SafeBlocks alone = Webs.example();
        due.whats("one without LINKS", NONE, what -> alone.without(1, 9, what), 2, 5, 3, 6);
        SafeBlocks bundle = Webs.bundle(2, 64);
        due.whats("one of 64", NONE, what -> bundle.without(0, 63, what), 1, 1, 0, 1);
        due.whats("an end of 64", NONE, what -> bundle.without(1, 1, what), 2, 2, 0, 0);
        due.whats("one of two", NONE, what -> Webs.bundle(2, 2).without(0, 0, what), 1, 2, 1, 1);
        due.whats("the only one", NONE, what -> Webs.path(2).without(0, 0, what), 2, 2, 0, 0);
        due.whats("of a round", NONE, what -> Webs.round(32).without(0, 31, what), 1, 32, 31, 31);
        due.same("nothing changes", Webs::example, TermsBoundsTest::askedWithout);
    }

    private static SafeBlocks askedWithout() {
        SafeBlocks x = Webs.example();
        x.without(1, 4, 0);
        x.without(0, 5, 3);
        return x;
    }

    private static void ring() {
        due.by("RING of a LINK: of all rings along it that with the fewest LINKS, told by its NODES: from the"
            + " LINK's second NODE on round to its first one");
        due.counted("of two links", i -> Webs.grown(3, 0, 2, 2, 0).ring(0, i), 2, 0);
        due.counted("of two links", i -> Webs.grown(3, 0, 2, 2, 0).ring(1, i), 0, 2);
        due.counted("of like links", i -> Webs.grown(3, 0, 2, 0, 2).ring(1, i), 2, 0);
        due.counted("of three", i -> Webs.round(3).ring(0, i), 1, 2, 0);
        due.counted("of three", i -> Webs.round(3).ring(2, i), 0, 1, 2);
        int[] all = new int[32];
        for (int i = 0; i < 32; i++) {
            all[i] = i;
        }
        due.counted("of 32", i -> Webs.round(32).ring(31, i), all);
        // The fewest links: 0, 2, 1 is first node by node, but 1 is linked twice with 3.
        due.counted("the fewest", i -> Webs.grown(4, 3, 1, 1, 0, 0, 2, 2, 3, 3, 1).ring(0, i), 1, 3);
        due.noRow("of a BRIDGE", i -> Webs.path(3).ring(1, i));
        due.noRow("none such", i -> Webs.path(3).ring(2, i));

        due.by("of several that which is first, NODE by NODE");
        // From 0 round to 1: over 2 and 7, over 3 and 4, over 3 and 5; 7 is far, though 2 is first.
        due.counted("by the first", i -> Webs.grown(8, 1, 0, 0, 3, 3, 4, 4, 1, 3, 5, 5, 1, 0, 2, 2, 7, 7, 1)
            .ring(0, i), 0, 2, 7, 1);
        due.counted("by the second", i -> Webs.grown(8, 1, 0, 0, 3, 3, 5, 5, 1, 3, 4, 4, 1).ring(0, i),
            0, 3, 4, 1);
        // The less node leads the longer way: it is not taken.
        due.counted("2 leads round", i -> Webs.grown(8, 1, 0, 0, 2, 2, 4, 4, 5, 5, 1, 0, 6, 6, 7, 7, 1)
            .ring(0, i), 0, 6, 7, 1);
    }

    private static void undo() {
        due.by("UNDO: the latest LINK is taken back: all but STATE is as ahead of it");
        int[][] runs = {
            {4, 5, 5, 6, 6, 4, 0, 1, 1, 0, 1, 4, 6, 7, 7, 8, 4, 3, 3, 2, 2, 4},
            {0, 1, 2, 3, 3, 4, 1, 2, 4, 0, 5, 6, 6, 7, 7, 5, 8, 6, 8, 1},
            {9, 8, 8, 7, 9, 7, 0, 1, 0, 2, 0, 3, 3, 2, 1, 8, 2, 9, 5, 6},
        };
        for (int[] ends : runs) {
            int links = ends.length / 2;
            for (int kept = 0; kept < links; kept++) {
                int left = kept;
                due.same("taken back to " + kept, () -> firstLinks(ends, left), () -> {
                    SafeBlocks x = Webs.grown(10, ends);
                    x.undo(links - left);
                    return x;
                });
            }
            due.same("taken back one by one", () -> firstLinks(ends, 0), () -> {
                SafeBlocks x = Webs.grown(10, ends);
                for (int l = 0; l < links; l++) {
                    x.undo(1);
                }
                return x;
            });
        }
        SafeBlocks x = new SafeBlocks();
        x.rain(2);
        int state = x.look(9);
        due.is("undo(2)", x.undo(2), 0);
        due.is("STATE is not", x.look(9), state);
    }

    private static SafeBlocks firstLinks(int[] ends, int links) {
        return Webs.grown(10, java.util.Arrays.copyOf(ends, 2 * links));
    }

    private static void draw() {
        // The row of STATES from 0 on, well known: 3C6EF35F, 47502932, D1CCF6E9, AAF95334, 6252E503.
        int[] states = {0x3C6EF35F, 0x47502932, 0xD1CCF6E9, 0xAAF95334, 0x6252E503, 0x9F2EC686};

        due.by("STATE (an int, 0 at first)");
        SafeBlocks x = new SafeBlocks();
        due.is("look(9)", x.look(9), 0);
        due.is("state(least int)", x.state(Integer.MIN_VALUE), 0);
        due.is("state(greatest int)", x.state(Integer.MAX_VALUE), Integer.MIN_VALUE);
        due.is("state(-1)", x.state(-1), Integer.MAX_VALUE);
        due.is("look(9)", x.look(9), -1);

        due.by("becomes 1664525 times itself + 1013904223 (ints, which wrap)");
        x = new SafeBlocks();
        for (int i = 0; i < 6; i += 2) {
            x.rain(1);
            due.is("look(9) after " + (i + 2), x.look(9), states[i + 1]);
        }
        x = new SafeBlocks();
        x.state(Integer.MAX_VALUE);
        x.rain(1);
        due.is("from the greatest", x.look(9), (int) twice(Integer.MAX_VALUE));
        x = new SafeBlocks();
        x.state(Integer.MIN_VALUE);
        x.rain(1);
        due.is("from the least", x.look(9), (int) twice(Integer.MIN_VALUE));

        due.by("then it is its highest 24 bits (without sign) modulo m");
        x = new SafeBlocks();
        x.rain(3);
        // 3C6EF3 modulo 8, 475029 modulo 7 (6, not less than 3), and so on; D1CCF6 has the sign.
        int[] ends = {3, 7, 6, 5, 5, 0};
        for (int l = 0; l < 3; l++) {
            due.is("linkOf(" + l + ", 0)", x.linkOf(l, 0), ends[2 * l]);
            due.is("linkOf(" + l + ", 1)", x.linkOf(l, 1), ends[2 * l + 1]);
        }
        x = Webs.grown(31);
        x.rain(3);
        due.is("D1CCF6 modulo 31", x.linkOf(1, 0), 0xD1CCF6 % 31);

        due.by("RAIN of k: k times a DRAW of n, a DRAW of n less 1 (one more if it is not less): a LINK"
            + " between these");
        x = Webs.grown(2);
        x.rain(64);
        int state = 0;
        for (int l = 0; l < 64; l++) {
            state = (int) (1664525L * state + 1013904223L);
            int first = (state >>> 8) % 2;
            due.is("of two nodes, the first", x.linkOf(l, 0), first);
            due.is("of two nodes, the other", x.linkOf(l, 1), 1 - first);
            state = (int) (1664525L * state + 1013904223L);
        }
        due.is("two DRAWS each", x.look(9), state);
        askRainOf32();
    }

    private static void askRainOf32() {
        SafeBlocks x = Webs.grown(32);
        x.rain(64);
        int state = 0;
        for (int l = 0; l < 64; l++) {
            state = (int) (1664525L * state + 1013904223L);
            int u = (state >>> 8) % 32;
            state = (int) (1664525L * state + 1013904223L);
            int v = (state >>> 8) % 31;
            due.is("linkOf(" + l + ", 0)", x.linkOf(l, 0), u);
            due.is("linkOf(" + l + ", 1)", x.linkOf(l, 1), v < u ? v : v + 1);
        }
    }

    private static long twice(int from) {
        long one = 1664525L * from + 1013904223L & 0xFFFFFFFFL;
        return 1664525L * one + 1013904223L & 0xFFFFFFFFL;
    }

    private static void lastCall() {
        due.by("An object is used for at most 512 calls after it has been made");
        SafeBlocks x = new SafeBlocks();
        for (int call = 1; call < 511; call++) {
            x.link(call % 8, (call + 1) % 8);
        }
        due.is("the 511th", x.look(1), 64);
        due.is("the 512th", x.link(0, 1), NONE);
    }
}
