import java.util.ArrayList;
import java.util.Arrays;
import java.util.List;

/**
 * Every run of a few links between a few nodes, and drawn runs between some more: all ways and all
 * rings are listed one by one, as the document's words have them, and what these words ask of
 * BRIDGES, BLOCKS, PARTS, CUTS, DOUBLE-SAFE, SINCE, BETWEEN, WOULD, WITHOUT and RING is held
 * against the class.
 */
public final class SmallWebsTest {
    private static final int NONE = -1;
    private static final int[][] NODES_AND_LINKS = {{2, 6}, {3, 5}, {4, 4}};
    private static final int MOST_CALLS = 512;
    private static final int DRAWN_RUNS = 1500;

    private static int wrong = 0;
    private static long asked = 0;

    public static void main(String[] args) {
        for (int[] size : NODES_AND_LINKS) {
            List<Listed> run = new ArrayList<>();
            run.add(new Listed(size[0], new int[0][]));
            everyRun(run, size[1]);
        }
        for (int seed = 0; seed < DRAWN_RUNS; seed++) {
            drawnRun(seed);
        }
        System.out.println(asked + " answers by rings, " + wrong + " not as due");
        if (wrong != 0) {
            System.exit(1);
        }
    }

    private static void everyRun(List<Listed> run, int linksLeft) {
        check(run);
        Listed last = run.get(run.size() - 1);
        for (int u = 0; u < last.n && linksLeft > 0; u++) {
            for (int v = 0; v < last.n; v++) {
                if (u != v) {
                    run.add(last.with(u, v));
                    everyRun(run, linksLeft - 1);
                    run.remove(run.size() - 1);
                }
            }
        }
    }

    private static void drawnRun(int seed) {
        int n = 5 + seed % 3;
        int m = 3 + seed % 8;
        long drawn = seed * 2862933555777941757L + 3037000493L;
        List<Listed> run = new ArrayList<>();
        run.add(new Listed(n, new int[0][]));
        for (int l = 0; l < m; l++) {
            drawn = drawn * 6364136223846793005L + 1442695040888963407L;
            int u = (int) ((drawn >>> 33) % n);
            int v = (int) ((drawn >>> 40) % (n - 1));
            run.add(run.get(l).with(u, v < u ? v : v + 1));
        }
        check(run);
    }

    // ---- what is asked of the class

    private static void check(List<Listed> run) {
        Listed web = run.get(run.size() - 1);
        Asked x = new Asked(web);
        x.whole();
        x.links();
        x.parts();
        x.nodes();
        for (int u = 0; u < web.n; u++) {
            for (int v = 0; v < web.n; v++) {
                if (u != v) {
                    x.pair(u, v);
                    x.since(run, u, v);
                }
            }
        }
    }

    private static final class Asked {
        private final Listed web;
        private SafeBlocks object;
        private int calls = MOST_CALLS;

        Asked(Listed web) {
            this.web = web;
        }

        private SafeBlocks x() {
            if (calls == MOST_CALLS) {
                object = new SafeBlocks();
                object.nodes(web.n);
                for (int[] link : web.links) {
                    object.link(link[0], link[1]);
                }
                calls = 1 + web.m;
            }
            calls++;
            return object;
        }

        private void due(String call, int got, int want) {
            asked++;
            if (got != want) {
                wrong++;
                if (wrong < 40) {
                    System.out.println(web.n + " nodes, links " + Arrays.deepToString(web.links) + ": " + call
                        + " answered " + got + ", due is " + want);
                }
            }
        }

        void whole() {
            int[] counts = web.counts(NONE, NONE);
            due("look(2)", x().look(2), counts[2]);
            due("look(3)", x().look(3), counts[1]);
            due("look(4)", x().look(4), counts[0]);
            due("look(5)", x().look(5), counts[3]);
            int cuts = 0;
            int frail = 0;
            int safe = 0;
            for (int u = 0; u < web.n; u++) {
                cuts += web.partsAt(u) > 1 ? 1 : 0;
                for (int v = u + 1; v < web.n; v++) {
                    frail += web.joined(u, v) && !web.inOneBlock(u, v) ? 1 : 0;
                    safe += web.onOneRing(u, v) ? 1 : 0;
                }
            }
            due("look(6)", x().look(6), cuts);
            due("look(7)", x().look(7), frail);
            due("look(10)", x().look(10), safe);
        }

        void links() {
            for (int l = 0; l < web.m; l++) {
                due("linkOf(" + l + ", 2)", x().linkOf(l, 2), web.isBridge(l) ? 1 : 0);
                due("linkOf(" + l + ", 4)", x().linkOf(l, 4), web.leastLinks().indexOf(web.leastOfPart(l)));
                int[] ring = web.ring(l);
                due("ring(" + l + ", NONE)", x().ring(l, NONE), ring.length == 0 ? NONE : ring.length);
                for (int i = 0; i <= ring.length; i++) {
                    due("ring(" + l + ", " + i + ")", x().ring(l, i), i < ring.length ? ring[i] : NONE);
                }
                int[] counts = web.counts(l, NONE);
                for (int what = 0; what < 4; what++) {
                    due("without(0, " + l + ", " + what + ")", x().without(0, l, what), counts[what]);
                }
            }
        }

        void parts() {
            List<Integer> least = web.leastLinks();
            for (int p = 0; p <= least.size(); p++) {
                int links = 0;
                long nodes = 0L;
                for (int l = 0; l < web.m && p < least.size(); l++) {
                    if (web.leastOfPart(l) == least.get(p)) {
                        links++;
                        nodes |= 1L << web.links[l][0] | 1L << web.links[l][1];
                    }
                }
                due("part(" + p + ", 0)", x().part(p, 0), links == 0 ? NONE : links);
                due("part(" + p + ", 1)", x().part(p, 1), links == 0 ? NONE : Long.bitCount(nodes));
                due("part(" + p + ", 2)", x().part(p, 2), links == 0 ? NONE : least.get(p));
            }
        }

        void nodes() {
            for (int v = 0; v < web.n; v++) {
                due("node(" + v + ", 4)", x().node(v, 4), web.partsAt(v));
                due("node(" + v + ", 5)", x().node(v, 5), web.partsAt(v) > 1 ? 1 : 0);
                int[] counts = web.counts(NONE, v);
                for (int what = 0; what < 4; what++) {
                    due("without(1, " + v + ", " + what + ")", x().without(1, v, what), counts[what]);
                }
            }
        }

        void pair(int u, int v) {
            String of = u + ", " + v;
            due("doubleSafe(" + of + ")", x().doubleSafe(u, v), web.onOneRing(u, v) ? 1 : 0);
            List<Integer> bridges = web.linksOfAllWays(u, v);
            List<Integer> between = web.nodesOfAllWays(u, v);
            boolean one = web.joined(u, v);
            due("way(" + of + ", NONE)", x().way(u, v, NONE), one ? bridges.size() : NONE);
            due("between(" + of + ", NONE)", x().between(u, v, NONE), one ? between.size() : NONE);
            for (int i = 0; i <= bridges.size(); i++) {
                due("way(" + of + ", " + i + ")", x().way(u, v, i), i < bridges.size() ? bridges.get(i) : NONE);
            }
            for (int i = 0; i <= between.size(); i++) {
                due("between(" + of + ", " + i + ")", x().between(u, v, i), i < between.size() ? between.get(i) : NONE);
            }
            Listed more = web.with(u, v);
            int ended = 0;
            for (int l = 0; l < web.m; l++) {
                ended += web.isBridge(l) && !more.isBridge(l) ? 1 : 0;
            }
            int size = 1;
            for (int w = 0; w < web.n; w++) {
                size += w != u && more.inOneBlock(u, w) ? 1 : 0;
            }
            due("would(" + of + ", 0)", x().would(u, v, 0), ended);
            due("would(" + of + ", 1)", x().would(u, v, 1), size);
        }

        void since(List<Listed> run, int u, int v) {
            int[] since = {NONE, NONE, NONE};
            for (int k = run.size() - 1; k >= 0; k--) {
                Listed then = run.get(k);
                since[0] = then.joined(u, v) ? k : since[0];
                since[1] = then.inOneBlock(u, v) ? k : since[1];
                since[2] = then.onOneRing(u, v) ? k : since[2];
            }
            for (int kind = 0; kind < 3; kind++) {
                due("since(" + u + ", " + v + ", " + kind + ")", x().since(u, v, kind), since[kind]);
            }
        }
    }

    // ---- the words of the document, by lists of ways and rings

    /** A way that is at no node twice; a ring is one that a last link closes. */
    private static final class Way {
        final int[] nodes;
        final long nodeSet;
        final long linkSet;

        Way(int[] nodes, long nodeSet, long linkSet) {
            this.nodes = nodes;
            this.nodeSet = nodeSet;
            this.linkSet = linkSet;
        }

        boolean along(int l) {
            return (linkSet >>> l & 1L) != 0L;
        }

        boolean at(int v) {
            return (nodeSet >>> v & 1L) != 0L;
        }

        boolean isAheadOf(Way other) {
            return nodes.length != other.nodes.length
                ? nodes.length < other.nodes.length
                : Arrays.compare(nodes, other.nodes) < 0;
        }
    }

    private static final class Listed {
        final int n;
        final int m;
        final int[][] links;
        private final List<Way> rings = new ArrayList<>();
        private final int[] lands;
        private final int[] blocks;

        Listed(int n, int[][] links) {
            this.n = n;
            this.m = links.length;
            this.links = links;
            for (int l = 0; l < m; l++) {
                rings.addAll(ringsAlong(l));
            }
            lands = groups(NONE, NONE, false);
            blocks = groups(NONE, NONE, true);
        }

        Listed with(int u, int v) {
            int[][] more = Arrays.copyOf(links, m + 1);
            more[m] = new int[] {u, v};
            return new Listed(n, more);
        }

        /** From its second node on round to its first: the ways between these, closed by it. */
        private List<Way> ringsAlong(int l) {
            List<Way> all = new ArrayList<>();
            for (Way way : ways(links[l][1], links[l][0])) {
                if (!way.along(l)) {
                    all.add(new Way(way.nodes, way.nodeSet, way.linkSet | 1L << l));
                }
            }
            return all;
        }

        private List<Way> ways(int u, int v) {
            List<Way> all = new ArrayList<>();
            goOn(new Way(new int[] {u}, 1L << u, 0L), v, all);
            return all;
        }

        private void goOn(Way way, int goal, List<Way> all) {
            int last = way.nodes[way.nodes.length - 1];
            if (last == goal) {
                all.add(way);
                return;
            }
            for (int l = 0; l < m; l++) {
                int next = links[l][0] == last ? links[l][1] : links[l][1] == last ? links[l][0] : NONE;
                if (next != NONE && !way.at(next)) {
                    int[] nodes = Arrays.copyOf(way.nodes, way.nodes.length + 1);
                    nodes[way.nodes.length] = next;
                    goOn(new Way(nodes, way.nodeSet | 1L << next, way.linkSet | 1L << l), goal, all);
                }
            }
        }

        private boolean isThere(int l, int lessLink, int lessNode) {
            return l != lessLink && links[l][0] != lessNode && links[l][1] != lessNode;
        }

        private boolean isThere(Way ring, int lessLink, int lessNode) {
            return (lessLink == NONE || !ring.along(lessLink)) && (lessNode == NONE || !ring.at(lessNode));
        }

        private boolean onSomeRing(int l, int lessLink, int lessNode) {
            for (Way ring : rings) {
                if (ring.along(l) && isThere(ring, lessLink, lessNode)) {
                    return true;
                }
            }
            return false;
        }

        private boolean shareRing(int l, int k, int lessLink, int lessNode) {
            for (Way ring : rings) {
                if (ring.along(l) && ring.along(k) && isThere(ring, lessLink, lessNode)) {
                    return true;
                }
            }
            return false;
        }

        private int[] groups(int lessLink, int lessNode, boolean byRings) {
            int[] of = new int[n];
            for (int v = 0; v < n; v++) {
                of[v] = v;
            }
            for (int l = 0; l < m; l++) {
                if (isThere(l, lessLink, lessNode) && (!byRings || onSomeRing(l, lessLink, lessNode))) {
                    int from = of[links[l][0]];
                    for (int v = 0; v < n; v++) {
                        of[v] = of[v] == from ? of[links[l][1]] : of[v];
                    }
                }
            }
            return of;
        }

        /** How many LANDS, BLOCKS, BRIDGES and PARTS there are without a link or a node. */
        int[] counts(int lessLink, int lessNode) {
            int bridges = 0;
            int parts = 0;
            for (int l = 0; l < m; l++) {
                if (isThere(l, lessLink, lessNode)) {
                    bridges += onSomeRing(l, lessLink, lessNode) ? 0 : 1;
                    boolean isLeast = true;
                    for (int k = 0; k < l; k++) {
                        isLeast &= !shareRing(l, k, lessLink, lessNode);
                    }
                    parts += isLeast ? 1 : 0;
                }
            }
            return new int[] {
                (int) Arrays.stream(groups(lessLink, lessNode, false)).distinct().count(),
                (int) Arrays.stream(groups(lessLink, lessNode, true)).distinct().count(), bridges, parts,
            };
        }

        boolean isBridge(int l) {
            return !onSomeRing(l, NONE, NONE);
        }

        boolean joined(int u, int v) {
            return lands[u] == lands[v];
        }

        boolean inOneBlock(int u, int v) {
            return blocks[u] == blocks[v];
        }

        boolean onOneRing(int u, int v) {
            for (Way ring : rings) {
                if (ring.at(u) && ring.at(v)) {
                    return true;
                }
            }
            return false;
        }

        int leastOfPart(int l) {
            for (int k = 0; k < l; k++) {
                if (shareRing(l, k, NONE, NONE)) {
                    return k;
                }
            }
            return l;
        }

        List<Integer> leastLinks() {
            List<Integer> all = new ArrayList<>();
            for (int l = 0; l < m; l++) {
                if (leastOfPart(l) == l) {
                    all.add(l);
                }
            }
            return all;
        }

        int partsAt(int v) {
            long parts = 0L;
            for (int l = 0; l < m; l++) {
                if (links[l][0] == v || links[l][1] == v) {
                    parts |= 1L << leastOfPart(l);
                }
            }
            return Long.bitCount(parts);
        }

        int[] ring(int l) {
            Way best = null;
            for (Way ring : ringsAlong(l)) {
                if (best == null || ring.isAheadOf(best)) {
                    best = ring;
                }
            }
            return best == null ? new int[0] : best.nodes;
        }

        /** The links that no way goes without, as they come. */
        List<Integer> linksOfAllWays(int u, int v) {
            List<Way> ways = ways(u, v);
            List<Integer> all = new ArrayList<>();
            for (int i = 0; !ways.isEmpty() && i + 1 < ways.get(0).nodes.length; i++) {
                for (int l = 0; l < m; l++) {
                    int link = l;
                    if (joins(l, ways.get(0).nodes[i], ways.get(0).nodes[i + 1])
                        && ways.stream().allMatch(way -> way.along(link))) {
                        all.add(l);
                    }
                }
            }
            return all;
        }

        private boolean joins(int l, int u, int v) {
            return links[l][0] == u && links[l][1] == v || links[l][0] == v && links[l][1] == u;
        }

        /** The nodes but u and v that no way goes without, as they come. */
        List<Integer> nodesOfAllWays(int u, int v) {
            List<Way> ways = ways(u, v);
            List<Integer> all = new ArrayList<>();
            for (int i = 1; !ways.isEmpty() && i + 1 < ways.get(0).nodes.length; i++) {
                int node = ways.get(0).nodes[i];
                if (ways.stream().allMatch(way -> way.at(node))) {
                    all.add(node);
                }
            }
            return all;
        }
    }
}
