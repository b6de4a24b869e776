/** Each sentence of the document's promises that names a boundary case, with what it asks there. */
public final class PromiseBoundsTest {
    private static final int NONE = -1;
    private static final int BRIDGE = NONE - 1;
    private static final Due due = new Due();

    public static void main(String[] args) {
        newObject();
        nodes();
        link();
        undo();
        rain();
        state();
        linkOf();
        bridge();
        node();
        block();
        memberAndChild();
        land();
        storyOfBlocksAndLands();
        storyOfParts();
        latest();
        doubleSafe();
        way();
        since();
        would();
        best();
        worst();
        part();
        centre();
        between();
        mending();
        without();
        ring();
        wouldName();
        bridgesBy();
        look();
        questionsChangeNothing();
        due.end();
    }

    private static void newObject() {
        due.by("1. Eight NODES, no LINKS.");
        SafeBlocks x = new SafeBlocks();
        due.whats("look", NONE - 9, x::look, 8, 0, 0, 8, 8, 0, 0, 0, 0, 0, 0, 0);
        due.counted("bridge", new SafeBlocks()::bridge);
        due.noRow("linkOf", i -> new SafeBlocks().linkOf(i, 0));
        due.noRow("part", i -> new SafeBlocks().part(i, 0));
        due.noRow("ring", i -> new SafeBlocks().ring(i, NONE));
        due.noRow("story of a part", i -> new SafeBlocks().story(2, i, 0));
        due.noRow("latest", new SafeBlocks()::latest);
        due.noRow("best", new SafeBlocks()::best);
        due.noRow("worst", new SafeBlocks()::worst);
        due.row("bridgesBy", new SafeBlocks()::bridgesBy, 0);
        for (int v = 0; v < 8; v++) {
            int node = v;
            SafeBlocks y = new SafeBlocks();
            due.whats("node", NONE, what -> y.node(node, what), v, v, 0, 0, 0, 0, 0);
            due.whats("block", NONE, what -> y.block(node, what), 1, v, 0, 0, NONE, NONE, 0, 0, 0, 0, 1);
            due.whats("land", NONE, what -> y.land(node, what), 1, 1, 0, 0, v, 0, 0, 0, v, v, 0);
            due.whats("story 0", NONE, what -> y.story(0, node, what), 1, NONE, NONE, 1, v);
            due.whats("story 1", NONE, what -> y.story(1, node, what), 1, NONE, NONE, 1, v);
            due.whats("without", NONE, what -> y.without(1, node, what), 8, 8, 0, 0);
        }
        due.same("as with nodes(8)", SafeBlocks::new, () -> Webs.grown(8));

        due.by("The constants: NONE = -1");
        due.is("NONE", SafeBlocks.NONE, -1);
    }

    private static void nodes() {
        due.by("2. n NODES, no LINKS: true");
        for (int n = 2; n <= 32; n++) {
            due.is("nodes(" + n + ")", new SafeBlocks().nodes(n), true);
        }
        for (int n : new int[] {2, 3, 8, 31, 32}) {
            int many = n;
            due.same("whatever was ahead of it", () -> Webs.grown(many), () -> {
                SafeBlocks x = Webs.round(32);
                x.link(3, 9);
                x.nodes(many);
                return x;
            });
        }
        SafeBlocks x = new SafeBlocks();
        x.state(77);
        due.is("nodes(5)", x.nodes(5), true);
        due.is("STATE is no NODE and no LINK", x.look(9), 77);
        x.link(0, 4);
        due.is("undo(1)", x.undo(1), 0);
        due.is("n NODES still", x.look(0), 5);

        due.by("2. false if there can't be so many");
        for (int n : new int[] {1, 33, 0, -1, Integer.MIN_VALUE, Integer.MAX_VALUE}) {
            due.is("nodes(" + n + ")", Webs.example().nodes(n), false);
            due.same("nodes(" + n + ") changes nothing", Webs::example, () -> {
                SafeBlocks y = Webs.example();
                y.nodes(n);
                return y;
            });
        }
    }

    private static void link() {
        due.by("3. how many BRIDGES are none any more by it (0 within a BLOCK), or NONE - 1 if it is a BRIDGE");
        due.is("first", Webs.grown(2).link(1, 0), BRIDGE);
        due.is("last of a path", Webs.path(31).link(30, 0), 30);
        due.is("one bridge", Webs.path(2).link(0, 1), 1);
        due.is("within", Webs.round(32).link(0, 16), 0);
        due.is("between blocks of one land", Webs.example().link(2, 0), 1);
        due.is("between lands", Webs.example().link(2, 9), BRIDGE);
        due.is("ends of the longest way", Webs.path(32).link(31, 0), 31);

        due.by("3. NONE if one can't be");
        int[][] refused = {
            {-1, 0}, {0, -1}, {10, 0}, {0, 10}, {4, 4}, {-1, -1}, {10, 10}, {-1, 10},
            {Integer.MIN_VALUE, 0}, {0, Integer.MIN_VALUE}, {Integer.MAX_VALUE, 0}, {0, Integer.MAX_VALUE},
        };
        for (int[] ends : refused) {
            due.is("link(" + ends[0] + ", " + ends[1] + ")", Webs.example().link(ends[0], ends[1]), NONE);
            due.same("link(" + ends[0] + ", " + ends[1] + ") changes nothing", Webs::example, () -> {
                SafeBlocks x = Webs.example();
                x.link(ends[0], ends[1]);
                return x;
            });
        }
        due.is("just inside: link(0, 9)", Webs.example().link(0, 9), BRIDGE);
        due.is("just inside: link(9, 0)", Webs.example().link(9, 0), BRIDGE);

        due.by("3. or there are 64");
        due.is("the 63rd", Webs.bundle(4, 62).link(0, 1), 0);
        due.is("the 64th", Webs.bundle(4, 63).link(0, 1), 0);
        due.is("the 65th, within a block", Webs.bundle(4, 64).link(0, 1), NONE);
        due.is("the 65th, a bridge", Webs.bundle(4, 64).link(2, 3), NONE);
        due.same("the 65th changes nothing", () -> Webs.bundle(4, 64), () -> {
            SafeBlocks x = Webs.bundle(4, 64);
            x.link(0, 1);
            x.link(1, 2);
            x.link(2, 3);
            return x;
        });
        SafeBlocks x = Webs.bundle(4, 64);
        x.undo(1);
        due.is("the 64th again", x.link(2, 1), BRIDGE);
        due.is("the 65th again", x.link(2, 1), NONE);
    }

    private static void undo() {
        due.by("4. UNDO k times (0 on): how many LINKS are left");
        due.is("undo(0)", Webs.example().undo(0), 11);
        due.is("undo(1)", Webs.example().undo(1), 10);
        due.is("undo(10)", Webs.example().undo(10), 1);
        due.is("undo(11)", Webs.example().undo(11), 0);
        due.is("undo(0) of none", new SafeBlocks().undo(0), 0);
        due.is("undo(64)", Webs.bundle(2, 64).undo(64), 0);
        due.is("undo(1) of 64", Webs.bundle(2, 64).undo(1), 63);
        due.same("undo(0) changes nothing", Webs::example, () -> undone(0));
        due.same("undo(11): NODES without LINKS", () -> Webs.grown(10), () -> undone(11));
        SafeBlocks x = Webs.example();
        due.is("undo(4)", x.undo(4), 7);
        due.is("undo(3) more", x.undo(3), 4);
        due.is("undo(5) is too many now", x.undo(5), NONE);
        due.is("undo(4)", x.undo(4), 0);

        due.by("4. NONE, and nothing happens, if there are not so many");
        for (int k : new int[] {12, 13, 64, 65, Integer.MAX_VALUE, -1, Integer.MIN_VALUE}) {
            due.is("undo(" + k + ")", Webs.example().undo(k), NONE);
            due.same("undo(" + k + ") changes nothing", Webs::example, () -> undone(k));
        }
        due.is("undo(1) of none", new SafeBlocks().undo(1), NONE);
        due.is("undo(65) of 64", Webs.bundle(2, 64).undo(65), NONE);
    }

    private static SafeBlocks undone(int k) {
        SafeBlocks x = Webs.example();
        x.undo(k);
        return x;
    }

    private static void rain() {
        due.by("5. RAIN (k 1 .. 64): how many LINKS there are");
        due.is("rain(1)", new SafeBlocks().rain(1), 1);
        due.is("rain(2)", new SafeBlocks().rain(2), 2);
        due.is("rain(63)", new SafeBlocks().rain(63), 63);
        due.is("rain(64)", new SafeBlocks().rain(64), 64);
        due.is("rain(64) between two", Webs.grown(2).rain(64), 64);
        due.is("rain(1) on 63", Webs.bundle(2, 63).rain(1), 64);
        due.is("rain(53) on 11", Webs.example().rain(53), 64);
        due.is("rain(52) on 11", Webs.example().rain(52), 63);
        due.same("rain(3) is rain(1) and rain(2)", () -> rained(3), () -> {
            SafeBlocks x = rained(1);
            x.rain(2);
            return x;
        });
        due.same("the LINKS of a RAIN are LINKS like others", () -> Webs.grown(8, 3, 7, 6, 5, 5, 0), () -> {
            SafeBlocks x = rained(3);
            x.state(0);
            return x;
        });

        due.by("5. NONE, and no DRAW, if k can't be");
        for (int k : new int[] {0, -1, 65, Integer.MIN_VALUE, Integer.MAX_VALUE}) {
            due.is("rain(" + k + ")", new SafeBlocks().rain(k), NONE);
            due.same("rain(" + k + ") changes nothing", SafeBlocks::new, () -> rained(k));
        }

        due.by("5. or there would be more than 64");
        due.is("rain(64) on 1", Webs.path(2).rain(64), NONE);
        due.is("rain(54) on 11", Webs.example().rain(54), NONE);
        due.is("rain(2) on 63", Webs.bundle(2, 63).rain(2), NONE);
        due.is("rain(1) on 64", Webs.bundle(2, 64).rain(1), NONE);
        due.same("and no DRAW", () -> Webs.bundle(4, 63), () -> {
            SafeBlocks x = Webs.bundle(4, 63);
            x.rain(2);
            x.rain(64);
            return x;
        });
    }

    private static SafeBlocks rained(int k) {
        SafeBlocks x = new SafeBlocks();
        x.rain(k);
        return x;
    }

    private static void state() {
        due.by("6. STATE is told: what it was");
        SafeBlocks x = new SafeBlocks();
        int was = 0;
        for (int v : new int[] {1, -1, Integer.MAX_VALUE, Integer.MIN_VALUE, 64, 0, NONE - 9}) {
            due.is("state(" + v + ")", x.state(v), was);
            due.is("look(9)", x.look(9), v);
            was = v;
        }
        due.same("nothing else changes", Webs::example, () -> {
            SafeBlocks y = Webs.example();
            y.state(9);
            y.state(0);
            return y;
        });
    }

    private static void linkOf() {
        due.by("7. 2 whether it is a BRIDGE (1, 0), 3 the LINK by which it is none any more (NONE: it is one;"
            + " itself, if it never was)");
        SafeBlocks x = Webs.example();
        due.is("a bridge", x.linkOf(5, 3), NONE);
        due.is("was one", x.linkOf(0, 3), 2);
        due.is("was one", x.linkOf(1, 3), 2);
        due.is("never was", x.linkOf(2, 3), 2);
        due.is("never was", x.linkOf(4, 3), 4);
        due.is("never was, the last of 64", Webs.bundle(2, 64).linkOf(63, 3), 63);
        due.is("ended by link 1 of 64", Webs.bundle(2, 64).linkOf(0, 3), 1);
        x.link(2, 8);
        due.is("by one that joins blocks", x.linkOf(7, 3), 11);
        due.is("ended once is ended", x.linkOf(0, 3), 2);

        due.by("7. 5 and 6 SIDES (NONE: it is no BRIDGE)");
        SafeBlocks y = Webs.example();
        due.whats("a BRIDGE", NONE, what -> y.linkOf(5, what), 1, 4, 1, NONE, 2, 2, 7, 5);
        due.whats("its first NODE above", NONE, what -> y.linkOf(6, what), 6, 7, 1, NONE, 3, 7, 2, 6);
        due.whats("no BRIDGE", NONE, what -> y.linkOf(10, what), 2, 4, 0, 10, 5, NONE, NONE, 8);
        due.whats("no BRIDGE", NONE, what -> y.linkOf(0, what), 4, 5, 0, 2, 0, NONE, NONE, 0);

        due.by("7. NONE if there is none such, or another what");
        for (int what = 0; what < 8; what++) {
            due.is("linkOf(11, " + what + ")", Webs.example().linkOf(11, what), NONE);
            due.is("linkOf(-1, " + what + ")", Webs.example().linkOf(-1, what), NONE);
            due.is("taken back", undone(1).linkOf(10, what), NONE);
            int which = what;
            SafeBlocks z = Webs.example();
            due.far("linkOf", NONE, link -> z.linkOf(link, which));
        }
        due.is("the last", undone(1).linkOf(9, 0), 3);
    }

    private static void bridge() {
        due.by("8. The i-th BRIDGE (0 on, rising); i NONE: how many. NONE if there is none such.");
        due.counted("example", Webs.example()::bridge, 5, 6, 7);
        due.counted("none", Webs.round(32)::bridge);
        due.counted("the first of all", Webs.path(2)::bridge, 0);
        int[] all = new int[31];
        for (int i = 0; i < 31; i++) {
            all[i] = i;
        }
        due.counted("31", Webs.path(32)::bridge, all);
        due.counted("the last of 64", i -> {
            SafeBlocks x = Webs.bundle(3, 63);
            x.link(2, 1);
            return x.bridge(i);
        }, 63);
        SafeBlocks x = Webs.grown(6, 0, 1, 1, 2, 3, 4, 2, 0);
        due.counted("one between", x::bridge, 2);
    }

    private static void node() {
        due.by("9. 2 how many LINKS it has, 3 how many of these are BRIDGES, 4 of how many PARTS it is at"
            + " LINKS, 5 whether it is a CUT (1, 0), 6 DEEP of its BLOCK");
        SafeBlocks none = Webs.example();
        due.whats("no LINKS", NONE, what -> none.node(9, what), 9, 9, 0, 0, 0, 0, 0);
        SafeBlocks full = Webs.bundle(2, 64);
        due.whats("all 64", NONE, what -> full.node(0, what), 0, 0, 64, 0, 1, 0, 0);
        SafeBlocks star = Webs.star(32);
        due.whats("31 BRIDGES", NONE, what -> star.node(0, what), 0, 0, 31, 31, 31, 1, 0);
        due.whats("an end", NONE, what -> star.node(31, what), 31, 0, 1, 1, 1, 0, 1);
        SafeBlocks path = Webs.path(32);
        due.whats("the deepest", NONE, what -> path.node(31, what), 31, 0, 1, 1, 1, 0, 31);
        SafeBlocks mixed = Webs.example();
        due.whats("of three PARTS", NONE, what -> mixed.node(4, what), 4, 4, 5, 1, 3, 1, 0);

        due.by("9. NONE if there is none such, or another what");
        for (int what = 0; what < 7; what++) {
            int which = what;
            SafeBlocks x = Webs.example();
            due.is("node(10, ..)", x.node(10, what), NONE);
            due.is("node(-1, ..)", x.node(-1, what), NONE);
            due.far("node", NONE, v -> x.node(v, which));
        }
    }

    private static void block() {
        due.by("10. 2 LINKS within it, 3 BRIDGES at it, 4 PARENT's NAME (NONE), 5 UP LINK (NONE), 6 DEEP, 7 how"
            + " many have it as PARENT");
        SafeBlocks x = Webs.example();
        due.whats("a ROOT", NONE, what -> x.block(4, what), 5, 2, 6, 2, NONE, NONE, 0, 2, 1, 2, 9);
        due.whats("one NODE", NONE, what -> x.block(7, what), 1, 7, 0, 2, 4, 6, 1, 1, 0, 0, 2);
        due.whats("alone", NONE, what -> x.block(9, what), 1, 9, 0, 0, NONE, NONE, 0, 0, 0, 0, 1);
        SafeBlocks star = Webs.star(32);
        due.whats("of 31", NONE, what -> star.block(0, what), 1, 0, 0, 31, NONE, NONE, 0, 31, 0, 0, 32);
        due.whats("one of 31", NONE, what -> star.block(31, what), 1, 31, 0, 1, 0, 30, 1, 0, 0, 0, 1);
        SafeBlocks full = Webs.bundle(2, 64);
        due.whats("64 LINKS", NONE, what -> full.block(0, what), 2, 0, 64, 0, NONE, NONE, 0, 0, 0, 1, 2);

        due.by("10. 1 its least NODE");
        SafeBlocks named = Webs.grown(6, 4, 5, 5, 4, 0, 5, 0, 4, 0, 2);
        due.is("not its NAME", named.block(4, 1), 0);
        due.is("one NODE", named.block(2, 1), 2);

        due.by("10. 8 CUTS of it: NODES of it that are at two PARTS or more of LINKS within it, 9 how many PARTS of"
            + " LINKS are within it");
        due.is("a BRIDGE is not within it", x.block(0, 8), 0);
        due.is("node(1, 5) though", x.node(1, 5), 1);
        due.is("two triangles", x.block(4, 8), 1);
        due.is("two triangles", x.block(4, 9), 2);
        // Bows of two triangles at 0 and at 5 have a CUT each; the bridge between them makes two more.
        SafeBlocks bows = Webs.grown(10, 0, 1, 1, 2, 2, 0, 0, 3, 3, 4, 4, 0, 5, 6, 6, 7, 7, 5, 5, 8, 8, 9, 9, 5, 4, 9);
        due.is("bows: block(0, 8)", bows.block(0, 8), 1);
        due.is("bows: block(5, 8)", bows.block(5, 8), 1);
        due.is("bows: block(0, 9)", bows.block(0, 9), 2);
        due.is("bows: block(5, 9)", bows.block(5, 9), 2);
        due.is("bows: land(0, 6)", bows.land(0, 6), 4);
        // Nodes 0 .. 8, each linked twice with the next one.
        SafeBlocks chain = Webs.path(9);
        for (int v = 0; v < 8; v++) {
            chain.link(v + 1, v);
        }
        due.is("chain", chain.block(0, 0), 9);
        due.is("chain", chain.block(0, 8), 7);
        due.is("chain", chain.block(0, 9), 8);
        due.is("chain", chain.block(0, 2), 16);

        due.by("10. 10 NODES of all BLOCKS from it downwards");
        SafeBlocks path = Webs.path(32);
        for (int v = 0; v < 32; v++) {
            due.is("block(" + v + ", 10)", path.block(v, 10), 32 - v);
        }

        due.by("10. NONE if there is none such now, or another what");
        for (int what = 0; what < 11; what++) {
            int which = what;
            SafeBlocks y = Webs.example();
            for (int name : new int[] {1, 2, 3, 5, 6, 10, -1}) {
                due.is("block(" + name + ", " + what + ")", y.block(name, what), NONE);
            }
            due.far("block", NONE, name -> y.block(name, which));
        }
        SafeBlocks again = Webs.path(2);
        again.link(0, 1);
        due.is("ended", again.block(1, 0), NONE);
        again.undo(1);
        due.is("as ahead of it", again.block(1, 0), 1);
    }

    private static void memberAndChild() {
        due.by("11. The i-th NODE (0 on, rising) of a BLOCK. NONE if there is none such.");
        due.row("member(4)", i -> Webs.example().member(4, i), 2, 3, 4, 5, 6);
        due.row("member(9)", i -> Webs.example().member(9, i), 9);
        due.row("member(0)", i -> Webs.example().member(0, i), 0, 1);
        int[] all = new int[32];
        for (int i = 0; i < 32; i++) {
            all[i] = i;
        }
        due.row("of 32", i -> Webs.round(32).member(0, i), all);
        for (int name : new int[] {5, 1, 10, -1}) {
            due.noRow("member(" + name + ")", i -> Webs.example().member(name, i));
        }
        due.far("member", NONE, name -> Webs.example().member(name, 0));

        due.by("12. The i-th BLOCK that has one as its PARENT (NAMES, rising). NONE if there is none such.");
        due.row("child(4)", i -> Webs.example().child(4, i), 0, 7);
        due.row("child(7), no LAND's NAME", i -> Webs.example().child(7, i), 8);
        due.row("child(8)", i -> Webs.example().child(8, i));
        due.row("child(9)", i -> Webs.example().child(9, i));
        due.row("rising, whichever came first", i -> Webs.grown(8, 3, 6, 3, 1, 3, 7, 3, 0).child(3, i), 0, 1, 6, 7);
        int[] ends = java.util.Arrays.copyOfRange(all, 1, 32);
        due.row("of 31", i -> Webs.star(32).child(0, i), ends);
        // NAMES, not least NODES: block 5 (0, 5, 6) comes behind 4.
        due.row("by NAMES", i -> Webs.grown(8, 3, 4, 5, 6, 6, 5, 0, 6, 0, 5, 7, 3, 6, 3).child(3, i),
            4, 5, 7);
        for (int name : new int[] {5, 1, 10, -1}) {
            due.noRow("child(" + name + ")", i -> Webs.example().child(name, i));
        }
        // A ROOT has no PARENT: NONE is no BLOCK that has children.
        due.noRow("child(NONE)", i -> new SafeBlocks().child(NONE, i));
        due.far("child", NONE, name -> Webs.example().child(name, 0));
    }

    private static void land() {
        due.by("13. 0 how many NODES, 1 how many BLOCKS, 2 BRIDGES, 3 LINKS, 4 its ROOT's NAME, 5 MEND, 6 CUTS,"
            + " 7, 8, 9 LONGEST: how many, the BLOCKS at the ends (the lesser NAME first), 10 how many PARTS");
        SafeBlocks x = Webs.example();
        due.whats("example", NONE, what -> x.land(4, what), 9, 4, 3, 11, 4, 1, 4, 3, 0, 8, 6);
        due.whats("alone", NONE, what -> x.land(9, what), 1, 1, 0, 0, 9, 0, 0, 0, 9, 9, 0);
        SafeBlocks path = Webs.path(32);
        due.whats("path", NONE, what -> path.land(0, what), 32, 32, 31, 31, 0, 1, 30, 31, 0, 31, 31);
        SafeBlocks star = Webs.star(32);
        due.whats("star", NONE, what -> star.land(0, what), 32, 32, 31, 31, 0, 16, 1, 2, 1, 2, 31);
        SafeBlocks round = Webs.round(32);
        due.whats("round", NONE, what -> round.land(0, what), 32, 1, 0, 32, 0, 0, 0, 0, 0, 0, 1);
        SafeBlocks full = Webs.bundle(2, 64);
        due.whats("64 LINKS", NONE, what -> full.land(0, what), 2, 1, 0, 64, 0, 0, 0, 0, 0, 0, 1);
        // Land 1 of nodes 0, 1, 2 has block 2, so that names of lands are no names of blocks.
        SafeBlocks both = Webs.grown(5, 2, 1, 1, 0, 4, 3);
        due.whats("of two", NONE, what -> both.land(1, what), 3, 3, 2, 2, 1, 1, 1, 2, 0, 2, 2);
        due.whats("of two", NONE, what -> both.land(3, what), 2, 2, 1, 1, 3, 1, 0, 1, 3, 4, 1);

        due.by("13. NONE if there is none such now, or another what");
        for (int what = 0; what < 11; what++) {
            int which = what;
            SafeBlocks y = Webs.example();
            for (int name : new int[] {0, 1, 2, 3, 5, 6, 7, 8, 10, -1}) {
                due.is("land(" + name + ", " + what + ")", y.land(name, what), NONE);
            }
            due.far("land", NONE, name -> y.land(name, which));
        }
        SafeBlocks again = Webs.path(2);
        due.is("ended", again.land(1, 0), NONE);
        again.undo(1);
        due.is("as ahead of it", again.land(1, 0), 1);
    }

    private static void storyOfBlocksAndLands() {
        due.by("14. 0 whether it is one now (1, 0), 1 the LINK by which it ENDED (NONE), 2 INTO which (NONE)");
        SafeBlocks x = Webs.example();
        due.whats("a BLOCK now", NONE, what -> x.story(0, 4, what), 1, NONE, NONE, 5, 4);
        due.whats("never more than one", NONE, what -> x.story(0, 9, what), 1, NONE, NONE, 1, 9);
        due.whats("ended", NONE, what -> x.story(0, 2, what), 0, 10, 4, 1, 4);
        due.whats("ended by the first", NONE, what -> x.story(1, 5, what), 0, 0, 4, 1, 4);
        due.whats("a LAND now", NONE, what -> x.story(1, 4, what), 1, NONE, NONE, 9, 4);

        due.by("14. 3 the most NODES (PARTS: LINKS) that it ever had");
        SafeBlocks y = Webs.example();
        y.link(0, 8);
        due.whats("two, as it ended", NONE, what -> y.story(0, 0, what), 0, 11, 4, 2, 4);
        due.is("all", y.story(0, 4, 3), 9);
        due.is("32", Webs.round(32).story(0, 0, 3), 32);
        due.is("32", Webs.path(32).story(1, 0, 3), 32);
        due.is("64 LINKS", Webs.bundle(2, 64).story(2, 0, 3), 64);
        y.undo(1);
        due.is("as ahead of the latest", y.story(0, 4, 3), 5);

        due.by("14. 4 the NAME that what it was has now (going on from INTO to INTO)");
        // Lands 31 into 30 into 28 into 24 into 16 into 0: pairs, fours and so on, joined at the least.
        SafeBlocks far = Webs.grown(32);
        for (int half = 1; half < 32; half *= 2) {
            for (int least = 0; least < 32; least += 2 * half) {
                far.link(least, least + half);
            }
        }
        due.whats("land 31", NONE, what -> far.story(1, 31, what), 0, 15, 30, 1, 0);
        due.whats("land 30", NONE, what -> far.story(1, 30, what), 0, 23, 28, 2, 0);
        due.whats("land 28", NONE, what -> far.story(1, 28, what), 0, 27, 24, 4, 0);
        due.whats("land 24", NONE, what -> far.story(1, 24, what), 0, 29, 16, 8, 0);
        due.whats("land 16", NONE, what -> far.story(1, 16, what), 0, 30, 0, 16, 0);
        due.whats("land 0", NONE, what -> far.story(1, 0, what), 1, NONE, NONE, 32, 0);
        due.is("half of it taken back", far.undo(1), 30);
        due.is("land 31", far.story(1, 31, 4), 16);
        due.is("itself, if it is one", far.story(0, 31, 4), 31);

        due.by("14. NONE if there is none such, or another what");
        SafeBlocks z = Webs.example();
        for (int what = 0; what < 5; what++) {
            int which = what;
            for (int kind = 0; kind < 3; kind++) {
                int of = kind;
                due.is("story(kind, -1, ..)", z.story(kind, -1, what), NONE);
                due.is("story(kind, 11, ..)", z.story(kind, 11, what), NONE);
                due.far("story of name", NONE, name -> z.story(of, name, which));
            }
            due.is("story(0, 10, ..)", z.story(0, 10, what), NONE);
            due.is("story(1, 10, ..)", z.story(1, 10, what), NONE);
            due.is("story(-1, 0, ..)", z.story(-1, 0, what), NONE);
            due.is("story(3, 0, ..)", z.story(3, 0, what), NONE);
            due.far("story of kind", NONE, kind -> z.story(kind, 0, which));
        }
        due.is("the last LINK is a NAME", z.story(2, 10, 0), 0);
    }

    private static void storyOfParts() {
        due.by("14. of a PART (2)");
        SafeBlocks x = Webs.example();
        int[][] rows = {
            {1, NONE, NONE, 3, 0}, {0, 2, 0, 1, 0}, {0, 2, 0, 1, 0}, {1, NONE, NONE, 2, 3}, {0, 4, 3, 1, 3},
            {1, NONE, NONE, 1, 5}, {1, NONE, NONE, 1, 6}, {1, NONE, NONE, 1, 7}, {1, NONE, NONE, 3, 8},
            {0, 10, 8, 1, 8}, {0, 10, 8, 1, 8}, {},
        };
        for (int name = 0; name < rows.length; name++) {
            int of = name;
            due.whats("story(2, " + name + ")", NONE, what -> x.story(2, of, what), rows[name]);
        }
        SafeBlocks full = Webs.bundle(3, 63);
        full.link(0, 2);
        due.whats("the 64th, a PART now", NONE, what -> full.story(2, 63, what), 1, NONE, NONE, 1, 63);
        due.whats("behind the last", NONE, what -> full.story(2, 64, what));
        full.undo(1);
        due.whats("taken back", NONE, what -> full.story(2, 63, what));
    }

    private static void latest() {
        due.by("15. 0 how many BLOCKS were TURNED (their PARENT became another one, that of the end's BLOCK,"
            + " too; 0 if it joined no LANDS)");
        due.is("one alone", Webs.path(2).latest(0), 1);
        due.is("one alone to many", Webs.path(32).latest(0), 1);
        // A path from 16 on is turned at its far end, below the path from 0 on.
        SafeBlocks x = Webs.grown(32);
        for (int v = 0; v < 15; v++) {
            Webs.link(x, v, v + 1, v + 16, v + 17);
        }
        due.is("link(15, 31)", x.link(15, 31), BRIDGE);
        due.is("all 16 of it", x.latest(0), 16);
        due.is("it joined none", Webs.round(32).latest(0), 0);
        due.is("within a BLOCK", Webs.bundle(2, 3).latest(0), 0);
        due.is("the end is the ROOT", Webs.grown(5, 0, 1, 2, 3, 1, 2).latest(0), 1);
        due.is("the end is below it", Webs.grown(5, 0, 1, 2, 3, 1, 3).latest(0), 2);
        due.is("BLOCKS, not NODES", Webs.grown(8, 0, 1, 1, 2, 2, 3, 3, 4, 5, 6, 6, 7, 7, 5, 4, 7).latest(0), 1);

        due.by("15. 1 how many BLOCKS became one (1 if none did)");
        due.is("a BRIDGE", Webs.path(2).latest(1), 1);
        due.is("within a BLOCK", Webs.bundle(2, 3).latest(1), 1);
        due.is("two", Webs.bundle(2, 2).latest(1), 2);
        due.is("all 32", Webs.round(32).latest(1), 32);

        due.by("15. 2 the NAME of the BLOCK of its first NODE ahead of it, 3 that of its second one");
        SafeBlocks y = Webs.example();
        due.is("link(8, 1)", y.link(8, 1), 3);
        due.whats("ahead of it", NONE, y::latest, 0, 4, 8, 0);
        due.whats("two NODES made one", NONE, Webs.bundle(2, 2)::latest, 0, 2, 1, 0);
        due.whats("within", NONE, Webs.bundle(2, 3)::latest, 0, 1, 0, 0);
        due.whats("a BRIDGE", NONE, Webs.grown(4, 3, 1)::latest, 1, 1, 3, 1);
        y.undo(1);
        due.whats("of the latest that is left", NONE, y::latest, 0, 3, 2, 4);
        y.rain(0);
        y.link(3, 3);
        due.whats("of the latest that came", NONE, y::latest, 0, 3, 2, 4);

        due.by("15. NONE if there are no LINKS, or another what");
        due.noRow("no LINKS", new SafeBlocks()::latest);
        due.noRow("taken back", undone(11)::latest);
        SafeBlocks z = Webs.example();
        z.nodes(10);
        due.noRow("new NODES", z::latest);
    }

    private static void doubleSafe() {
        due.by("16. Whether two NODES are DOUBLE-SAFE (1, 0). NONE if there are none such, or they are one.");
        SafeBlocks x = Webs.round(32);
        due.is("doubleSafe(0, 31)", x.doubleSafe(0, 31), 1);
        due.is("doubleSafe(31, 0)", x.doubleSafe(31, 0), 1);
        due.is("doubleSafe(0, 32)", x.doubleSafe(0, 32), NONE);
        due.is("doubleSafe(32, 0)", x.doubleSafe(32, 0), NONE);
        due.is("doubleSafe(-1, 0)", x.doubleSafe(-1, 0), NONE);
        due.is("doubleSafe(0, -1)", x.doubleSafe(0, -1), NONE);
        due.far("doubleSafe", NONE, v -> x.doubleSafe(v, 0));
        due.far("doubleSafe", NONE, v -> x.doubleSafe(0, v));
        for (int v = 0; v < 32; v++) {
            due.is("one", x.doubleSafe(v, v), NONE);
        }
        due.is("none such, and one", x.doubleSafe(32, 32), NONE);
        due.is("a BRIDGE", Webs.path(2).doubleSafe(0, 1), 0);
        due.is("unlike LANDS", new SafeBlocks().doubleSafe(0, 7), 0);
    }

    private static void way() {
        due.by("17. The i-th BRIDGE on the way from u to v (0 on); i NONE: how many");
        int[] there = new int[31];
        int[] back = new int[31];
        for (int i = 0; i < 31; i++) {
            there[i] = i;
            back[i] = 30 - i;
        }
        due.counted("way(0, 31)", i -> Webs.path(32).way(0, 31, i), there);
        due.counted("way(31, 0)", i -> Webs.path(32).way(31, 0, i), back);
        due.counted("way(9, 10)", i -> Webs.path(32).way(9, 10, i), 9);
        due.counted("up and down", i -> Webs.star(32).way(31, 1, i), 30, 0);
        due.counted("through a BLOCK", i -> Webs.example().way(0, 7, i), 5, 6);
        due.counted("within a BLOCK", i -> Webs.example().way(5, 2, i));
        due.counted("one NODE", i -> Webs.example().way(8, 8, i));
        due.counted("one NODE alone", i -> Webs.example().way(9, 9, i));

        due.by("17. NONE if there is none such, or u and v are not in one LAND");
        due.noRow("unlike LANDS", i -> Webs.example().way(9, 4, i));
        due.noRow("unlike LANDS", i -> Webs.example().way(4, 9, i));
        for (int out : new int[] {10, -1, Integer.MIN_VALUE, Integer.MAX_VALUE}) {
            due.noRow("way(" + out + ", 0)", i -> Webs.example().way(out, 0, i));
            due.noRow("way(0, " + out + ")", i -> Webs.example().way(0, out, i));
            due.noRow("way(" + out + ", " + out + ")", i -> Webs.example().way(out, out, i));
        }
    }

    private static void since() {
        due.by("18. SINCE of u, v: in one LAND (kind 0), BLOCK (1), DOUBLE-SAFE (2)");
        due.whats("since(4, 6)", NONE, kind -> Webs.example().since(4, 6, kind), 2, 3, 3);
        due.whats("since(5, 2)", NONE, kind -> Webs.example().since(5, 2, kind), 10, 11, NONE);
        due.whats("since(8, 0)", NONE, kind -> Webs.example().since(8, 0, kind), 8, NONE, NONE);
        due.whats("by the first two", NONE, kind -> Webs.bundle(2, 64).since(0, 1, kind), 1, 2, 2);
        due.whats("across 32", NONE, kind -> Webs.round(32).since(0, 31, kind), 31, 32, 32);
        due.whats("side by side", NONE, kind -> Webs.round(32).since(0, 1, kind), 1, 32, 32);

        due.by("18. NONE if they are not, are one, or there are none such");
        due.whats("not in one LAND", NONE, kind -> Webs.example().since(9, 0, kind), NONE, NONE, NONE);
        due.whats("one", NONE, kind -> Webs.example().since(4, 4, kind), NONE, NONE, NONE);
        for (int out : new int[] {10, -1, Integer.MIN_VALUE, Integer.MAX_VALUE}) {
            due.whats("none such", NONE, kind -> Webs.example().since(out, 4, kind), NONE, NONE, NONE);
            due.whats("none such", NONE, kind -> Webs.example().since(4, out, kind), NONE, NONE, NONE);
        }
        // They were, but by a LINK that is taken back.
        due.whats("not now", NONE, kind -> undone(2).since(3, 2, kind), NONE, NONE, NONE);
        due.whats("not so now", NONE, kind -> undone(1).since(3, 2, kind), 10, NONE, NONE);
        due.whats("so now", NONE, kind -> undone(0).since(3, 2, kind), 10, 11, 11);
    }

    private static void would() {
        due.by("19. WOULD what 0 how many BRIDGES, 1 how many NODES");
        due.whats("all of 32", NONE, what -> Webs.path(32).would(0, 31, what), 31, 32);
        due.whats("one of 31", NONE, what -> Webs.path(32).would(31, 30, what), 1, 2);
        due.whats("within", NONE, what -> Webs.round(32).would(0, 16, what), 0, 32);
        due.whats("a BRIDGE, of the first one", NONE, what -> Webs.example().would(9, 4, what), 0, 1);
        due.whats("a BRIDGE, of the first one", NONE, what -> Webs.example().would(4, 9, what), 0, 5);
        due.whats("blocks on the way", NONE, what -> Webs.example().would(8, 1, what), 3, 9);
        due.same("none comes", Webs::example, () -> {
            SafeBlocks x = Webs.example();
            x.would(0, 8, 0);
            x.wouldName(0, 9, 1);
            return x;
        });

        due.by("19. NONE if there are none such, they are one, or another what");
        due.whats("one", NONE, what -> Webs.example().would(4, 4, what));
        for (int out : new int[] {10, -1, Integer.MIN_VALUE, Integer.MAX_VALUE}) {
            due.whats("none such", NONE, what -> Webs.example().would(out, 4, what));
            due.whats("none such", NONE, what -> Webs.example().would(4, out, what));
        }
    }

    private static void best() {
        due.by("20. BEST what 0 how many BRIDGES, 1 the lesser NODE, 2 the other one");
        due.whats("one", NONE, Webs.grown(8, 7, 6)::best, 1, 6, 7);
        due.whats("31", NONE, Webs.path(32)::best, 31, 0, 31);
        due.whats("example", NONE, Webs.example()::best, 3, 0, 8);

        due.by("20. NONE if no LINK would end any, or another what");
        due.noRow("no LINKS", new SafeBlocks()::best);
        due.noRow("no BRIDGES", Webs.bundle(2, 64)::best);
        due.noRow("no BRIDGES", Webs.round(3)::best);
    }

    private static void worst() {
        due.by("21. WORST what 0 the LINK, 1 the product");
        due.whats("one, the first", NONE, Webs.path(2)::worst, 0, 1);
        due.whats("of like ones the first", NONE, Webs.star(32)::worst, 0, 31);
        due.whats("16 times 16", NONE, Webs.path(32)::worst, 15, 256);
        due.whats("example", NONE, Webs.example()::worst, 5, 14);

        due.by("21. NONE if there are no BRIDGES, or another what");
        due.noRow("no LINKS", new SafeBlocks()::worst);
        due.noRow("no BRIDGES", Webs.bundle(2, 64)::worst);
        due.noRow("no BRIDGES", Webs.round(3)::worst);
    }

    private static void part() {
        due.by("22. Of a PART what 0 how many LINKS, 1 how many NODES, 2 its least LINK");
        due.whats("64 LINKS", NONE, what -> Webs.bundle(3, 64).part(0, what), 64, 2, 0);
        due.whats("32 NODES", NONE, what -> Webs.round(32).part(0, what), 32, 32, 0);
        due.whats("the 31st", NONE, what -> Webs.path(32).part(30, what), 1, 2, 30);
        due.whats("the last", NONE, what -> Webs.example().part(5, what), 3, 3, 8);

        due.by("22. NONE if there is none such, or another what");
        for (int out : new int[] {6, -1, Integer.MIN_VALUE, Integer.MAX_VALUE}) {
            due.whats("part(" + out + ")", NONE, what -> Webs.example().part(out, what));
        }
        due.whats("part(31) of 31", NONE, what -> Webs.path(32).part(31, what));
        due.whats("part(1) of one", NONE, what -> Webs.bundle(2, 64).part(1, what));
        due.whats("part(0) of none", NONE, what -> new SafeBlocks().part(0, what));
    }

    private static void centre() {
        due.by("23. CENTRE of a LAND (by its NAME): the BLOCK's NAME. NONE if there is none such now.");
        SafeBlocks x = Webs.example();
        due.is("centre(4) of two the least", x.centre(4), 4);
        due.is("centre(9)", x.centre(9), 9);
        for (int name : new int[] {0, 1, 2, 3, 5, 6, 7, 8, 10, -1}) {
            due.is("centre(" + name + ")", x.centre(name), NONE);
        }
        due.far("centre", NONE, x::centre);
        // The LAND's NAME is 0, that of its one BLOCK 1.
        SafeBlocks y = Webs.grown(4, 0, 1, 1, 2, 2, 3, 1, 3, 3, 0);
        due.is("centre(0)", y.centre(0), 1);
        due.is("centre(1) is no LAND", y.centre(1), NONE);
    }

    private static void between() {
        due.by("24. The i-th NODE BETWEEN u and v (0 on); i NONE: how many");
        due.counted("one", i -> Webs.path(3).between(0, 2, i), 1);
        due.counted("none", i -> Webs.path(3).between(0, 1, i));
        due.counted("back", i -> Webs.example().between(8, 0, i), 7, 6, 4, 1);
        due.counted("of a ring", i -> Webs.grown(8, 4, 5, 5, 6, 6, 7, 7, 4).between(4, 6, i));
        due.counted("of a ring, back", i -> Webs.grown(8, 4, 5, 5, 6, 6, 7, 7, 4).between(6, 4, i));
        due.counted("of a ring and on", i -> Webs.grown(8, 4, 5, 5, 6, 6, 7, 7, 4, 6, 2, 0, 4).between(0, 2, i), 4, 6);

        due.by("24. NONE if there is none such, they are one, or in unlike LANDS");
        due.noRow("one", i -> Webs.example().between(8, 8, i));
        due.noRow("unlike LANDS", i -> Webs.example().between(8, 9, i));
        for (int out : new int[] {10, -1, Integer.MIN_VALUE, Integer.MAX_VALUE}) {
            due.noRow("none such", i -> Webs.example().between(out, 4, i));
            due.noRow("none such", i -> Webs.example().between(4, out, i));
        }
    }

    private static void mending() {
        due.by("25. MENDING of a LAND: of its k-th LINK what 0 the first NODE, 1 the other one");
        due.whats("the first of 16", NONE, what -> Webs.star(32).mending(0, 0, what), 1, 16);
        due.whats("the last of 16", NONE, what -> Webs.star(32).mending(0, 15, what), 16, 31);
        due.whats("one of one", NONE, what -> Webs.path(2).mending(0, 0, what), 0, 1);
        // LAND 0, while block 0 has gone into block 1 (0 .. 3): node 4 hangs on it.
        SafeBlocks x = Webs.grown(6, 0, 1, 1, 2, 2, 3, 1, 3, 3, 0, 3, 4);
        due.is("story(0, 0, 2)", x.story(0, 0, 2), 1);
        due.whats("of a LAND whose NAME is no BLOCK's", NONE, what -> x.mending(0, 0, what), 0, 4);
        due.is("its MEND", x.land(0, 5), 1);
        due.is("MEND of all LANDS together", x.look(8), 1);

        due.by("25. NONE if there is none such, or another what");
        for (int what = 0; what < 2; what++) {
            int which = what;
            due.row("of one", k -> Webs.path(32).mending(0, k, which), 31 * which);
            due.row("of two", k -> Webs.star(4).mending(0, k, which), 1 + which, 2 + which);
            due.noRow("no BRIDGES", k -> Webs.round(32).mending(0, k, which));
            due.noRow("alone", k -> Webs.example().mending(9, k, which));
            for (int name : new int[] {0, 5, 8, 10, -1, Integer.MIN_VALUE, Integer.MAX_VALUE}) {
                due.noRow("mending(" + name + ")", k -> Webs.example().mending(name, k, which));
            }
        }
    }

    private static void without() {
        due.by("26. WITHOUT a LINK (kind 0), a NODE (1) what 0 LANDS, 1 BLOCKS, 2 BRIDGES, 3 PARTS");
        SafeBlocks x = Webs.example();
        due.whats("the first LINK", NONE, what -> x.without(0, 0, what), 2, 7, 5, 7);
        due.whats("a BRIDGE", NONE, what -> x.without(0, 5, what), 3, 5, 2, 5);
        due.whats("the last LINK", NONE, what -> x.without(0, 10, what), 2, 7, 5, 7);
        due.whats("the first NODE", NONE, what -> x.without(1, 0, what), 3, 6, 3, 5);
        due.whats("a CUT", NONE, what -> x.without(1, 4, what), 5, 9, 4, 5);
        due.whats("the last NODE", NONE, what -> x.without(1, 9, what), 2, 5, 3, 6);

        due.by("26. NONE if there is none such, or another what");
        SafeBlocks y = Webs.example();
        for (int out : new int[] {-1, 11, Integer.MIN_VALUE, Integer.MAX_VALUE}) {
            due.whats("no such LINK", NONE, what -> y.without(0, out, what));
            due.whats("no such NODE", NONE, what -> y.without(1, out, what));
        }
        due.whats("a LINK, but no NODE", NONE, what -> y.without(1, 10, what));
        due.whats("a NODE, but no LINK", NONE, what -> new SafeBlocks().without(0, 0, what));
        for (int kind : new int[] {-1, 2, Integer.MIN_VALUE, Integer.MAX_VALUE}) {
            due.whats("no such kind", NONE, what -> Webs.example().without(kind, 0, what));
        }
    }

    private static void ring() {
        due.by("27. The i-th NODE (0 on) of the RING of a LINK; i NONE: how many");
        due.counted("two", i -> Webs.bundle(2, 64).ring(63, i), 0, 1);
        due.counted("two", i -> Webs.bundle(2, 64).ring(0, i), 1, 0);
        due.counted("three", i -> Webs.example().ring(10, i), 4, 3, 2);
        SafeBlocks x = Webs.round(32);
        due.is("how many of 32", x.ring(5, NONE), 32);
        due.is("from the second NODE on", x.ring(5, 0), 6);
        due.is("to the first one", x.ring(5, 31), 5);
        due.is("behind it", x.ring(5, 32), NONE);

        due.by("27. NONE if there is none such, or it is a BRIDGE");
        for (int link : new int[] {5, 6, 7, 11, -1, Integer.MIN_VALUE, Integer.MAX_VALUE}) {
            due.noRow("ring(" + link + ")", i -> Webs.example().ring(link, i));
        }
    }

    private static void wouldName() {
        due.by("28. The NAME that the BLOCK (kind 0), the LAND (1) of u would have, if a LINK came between u"
            + " and v");
        due.whats("of unlike LANDS", NONE, kind -> Webs.example().wouldName(0, 9, kind), 0, 4);
        due.whats("of unlike LANDS", NONE, kind -> Webs.example().wouldName(9, 0, kind), 9, 4);
        due.whats("of like sizes", NONE, kind -> new SafeBlocks().wouldName(7, 6, kind), 7, 6);
        due.whats("of one LAND", NONE, kind -> Webs.example().wouldName(7, 8, kind), 7, 4);
        due.whats("the most NODES", NONE, kind -> Webs.example().wouldName(0, 6, kind), 4, 4);
        due.whats("within a BLOCK", NONE, kind -> Webs.example().wouldName(6, 2, kind), 4, 4);
        due.whats("the least of 32", NONE, kind -> Webs.path(32).wouldName(31, 1, kind), 1, 0);
        // Block 1 (1, 2, 3) in land 0 of four nodes, of which block 0 has one.
        due.whats("a BLOCK by BLOCKS", NONE, kind -> Webs.grown(6, 0, 1, 1, 2, 2, 3, 3, 1).wouldName(0, 2, kind), 1, 0);
        // Land 3 (3, 4, 5: three blocks) and land 0 (0, 1: one block).
        due.whats("a LAND by LANDS", NONE, kind -> Webs.grown(6, 3, 4, 4, 5, 0, 1, 1, 0).wouldName(0, 3, kind), 0, 3);

        due.by("28. NONE if there are none such, or they are one");
        due.whats("one", NONE, kind -> Webs.example().wouldName(4, 4, kind));
        for (int out : new int[] {10, -1, Integer.MIN_VALUE, Integer.MAX_VALUE}) {
            due.whats("none such", NONE, kind -> Webs.example().wouldName(out, 4, kind));
            due.whats("none such", NONE, kind -> Webs.example().wouldName(4, out, kind));
        }
    }

    private static void bridgesBy() {
        due.by("29. How many LINKS the first k LINKS (0 .. m) alone had as BRIDGES. NONE if k can't be.");
        due.row("example", Webs.example()::bridgesBy, 0, 1, 2, 0, 1, 0, 1, 2, 3, 4, 5, 3);
        due.row("none", new SafeBlocks()::bridgesBy, 0);
        due.row("round of 3", Webs.round(3)::bridgesBy, 0, 1, 2, 0);
        int[] all = new int[65];
        all[1] = 1;
        due.row("64", Webs.bundle(2, 64)::bridgesBy, all);
        SafeBlocks x = Webs.bundle(3, 63);
        x.link(2, 0);
        all[64] = 1;
        due.row("64, the last a BRIDGE", x::bridgesBy, all);
        due.row("taken back", undone(8)::bridgesBy, 0, 1, 2, 0);
    }

    private static void look() {
        due.by("30. 0 n, 1 LINKS, 2 BRIDGES, 3 BLOCKS, 4 LANDS, 5 PARTS, 6 CUTS, 7 FRAIL, 8 MEND of all LANDS"
            + " together, 9 STATE, 10 pairs of NODES that are DOUBLE-SAFE, 11 the greatest DEEP");
        due.whats("two NODES", NONE - 9, Webs.grown(2)::look, 2, 0, 0, 2, 2, 0, 0, 0, 0, 0, 0, 0);
        due.whats("32 NODES", NONE - 9, Webs.grown(32)::look, 32, 0, 0, 32, 32, 0, 0, 0, 0, 0, 0, 0);
        due.whats("path", NONE - 9, Webs.path(32)::look, 32, 31, 31, 32, 1, 31, 30, 496, 1, 0, 0, 31);
        due.whats("star", NONE - 9, Webs.star(32)::look, 32, 31, 31, 32, 1, 31, 1, 496, 16, 0, 0, 1);
        due.whats("round", NONE - 9, Webs.round(32)::look, 32, 32, 0, 1, 1, 1, 0, 0, 0, 0, 496, 0);
        due.whats("64 LINKS", NONE - 9, Webs.bundle(2, 64)::look, 2, 64, 0, 1, 1, 1, 0, 0, 0, 0, 1, 0);
        due.whats("example", NONE - 9, Webs.example()::look, 10, 11, 3, 5, 2, 6, 4, 25, 1, 0, 7, 2);
        SafeBlocks pairs = Webs.grown(32);
        for (int v = 0; v < 32; v += 2) {
            pairs.link(v, v + 1);
        }
        due.whats("16 LANDS", NONE - 9, pairs::look, 32, 16, 16, 32, 16, 16, 0, 16, 16, 0, 0, 1);

        due.by("30. NONE - 9 for another what");
        due.is("look(-1)", Webs.example().look(-1), -10);
        due.is("look(12)", Webs.example().look(12), -10);
        due.is("look(-10)", Webs.example().look(-10), -10);
        due.far("look", -10, Webs.example()::look);
    }

    private static void questionsChangeNothing() {
        due.by("Nothing is promised beyond the answers and state changes described above");
        due.same("asked all, then asked again", Webs::example, () -> {
            SafeBlocks x = Webs.example();
            for (int a = -1; a < 12; a++) {
                for (int b = -1; b < 2; b++) {
                    x.way(a, 8, b);
                    x.between(a, 8, b);
                    x.ring(a, b);
                    x.mending(4, a, b);
                    x.without(b, a, 1);
                }
                x.best(a);
                x.land(4, a);
                x.centre(a);
            }
            return x;
        });
    }
}
