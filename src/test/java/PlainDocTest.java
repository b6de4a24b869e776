import java.util.ArrayList;
import java.util.Arrays;
import java.util.HashMap;
import java.util.List;
import java.util.Map;
import java.util.TreeMap;
import java.util.TreeSet;

/**
 * Runs of drawn calls against a second program that does what the document's words say, as plainly
 * as it can: bridges by leaving each link out, parts by leaving each node out, the forest block by
 * block, hypothetical links by really adding them. Nothing of it is shared with the class.
 */
public final class PlainDocTest {
    private static int wrong = 0;
    private static long asked = 0;

    public static void main(String[] args) {
        smallRuns();
        middleRuns();
        largeRuns();
        System.out.println(asked + " answers compared, " + wrong + " not as due");
        if (wrong != 0) {
            System.exit(1);
        }
    }

    private static void smallRuns() {
        for (int seed = 1; seed <= 150; seed++) {
            Run run = new Run(seed, 2 + seed % 7, 1);
            run.go(12, 14);
        }
    }

    private static void middleRuns() {
        for (int seed = 1; seed <= 40; seed++) {
            Run run = new Run(1000 + seed, 9 + seed % 12, 5);
            run.go(10, 30);
        }
    }

    private static void largeRuns() {
        for (int seed = 1; seed <= 24; seed++) {
            Run run = new Run(2000 + seed, 21 + seed % 12, 23);
            run.go(8, 64);
        }
    }

    /** A run of drawn calls on a new object, each state asked for everything. */
    private static final class Run {
        private final SafeBlocks real = new SafeBlocks();
        private final Plain plain = new Plain();
        private final int seed;
        private final int thin;
        private final int n;
        private long drawn;

        Run(int seed, int n, int thin) {
            this.seed = seed;
            this.n = n;
            this.thin = thin;
            this.drawn = seed * 7919L;
        }

        private int draw(int choices) {
            drawn = (drawn * 6364136223846793005L + 1442695040888963407L);
            return (int) ((drawn >>> 33) % choices);
        }

        private void due(String call, int got, int want) {
            asked++;
            if (got != want) {
                wrong++;
                if (wrong < 60) {
                    System.out.println("seed " + seed + " n " + plain.n + " links " + plain.told()
                        + ": " + call + " answered " + got + ", due is " + want);
                }
            }
        }

        void go(int states, int mostLinks) {
            askAll();
            due("nodes", real.nodes(n) ? 1 : 0, plain.nodes(n) ? 1 : 0);
            int start = draw(Integer.MAX_VALUE) * 2 + draw(2);
            due("state", real.state(start), plain.state(start));
            for (int i = 0; i < states; i++) {
                change(mostLinks);
                askAll();
            }
        }

        private void change(int mostLinks) {
            int which = draw(10);
            if (which < 5) {
                int many = 1 + draw(Math.max(1, mostLinks / 4));
                for (int i = 0; i < many && plain.links.size() < mostLinks; i++) {
                    linkOnce();
                }
            } else if (which < 7) {
                // Ways are long only where the links join what is not joined.
                int many = 1 + draw(n);
                for (int i = 0; i < many && plain.links.size() < mostLinks; i++) {
                    joinOnce();
                }
            } else if (which == 7) {
                int k = 1 + draw(Math.max(1, mostLinks / 3));
                if (plain.links.size() + k <= mostLinks || draw(3) == 0) {
                    due("rain(" + k + ")", real.rain(k), plain.rain(k));
                }
            } else if (which == 8) {
                int k = draw(plain.links.size() + 3) - 1;
                due("undo(" + k + ")", real.undo(k), plain.undo(k));
            } else {
                int k = draw(Math.max(1, plain.links.size() / 3));
                due("undo(" + k + ")", real.undo(k), plain.undo(k));
                linkOnce();
            }
        }

        private void linkOnce() {
            int u = draw(20) == 0 ? draw(n + 3) - 1 : draw(n);
            int v = draw(20) == 0 ? draw(n + 3) - 1 : draw(n);
            due("link(" + u + ", " + v + ")", real.link(u, v), plain.link(u, v));
            askLatest();
        }

        private void joinOnce() {
            Snap snap = plain.last();
            for (int attempt = 0; attempt < 10; attempt++) {
                int u = draw(n);
                int v = draw(n);
                if (snap.land[u] != snap.land[v]) {
                    due("link(" + u + ", " + v + ")", real.link(u, v), plain.link(u, v));
                    askLatest();
                    return;
                }
            }
        }

        private void askLatest() {
            for (int what = -1; what < 5; what++) {
                due("latest(" + what + ")", real.latest(what), plain.latest(what));
            }
        }

        private void askAll() {
            askLatest();
            askWhole();
            askLinks();
            askNodesAndNames();
            askPairs();
            due("nodes(1)", real.nodes(1) ? 1 : 0, 0);
            due("nodes(33)", real.nodes(33) ? 1 : 0, 0);
            due("link(0, 0)", real.link(0, 0), -1);
            due("rain(0)", real.rain(0), -1);
            due("rain(65)", real.rain(65), -1);
            due("undo(-1)", real.undo(-1), -1);
            due("undo(m + 1)", real.undo(plain.links.size() + 1), -1);
            due("undo(0)", real.undo(0), plain.links.size());
            due("look(9)", real.look(9), plain.state);
        }

        private void askWhole() {
            for (int what = -2; what < 13; what++) {
                due("look(" + what + ")", real.look(what), plain.look(what));
            }
            for (int what = -1; what < 4; what++) {
                due("best(" + what + ")", real.best(what), plain.best(what));
                due("worst(" + what + ")", real.worst(what), plain.worst(what));
            }
            int m = plain.links.size();
            for (int i = -2; i < m + 2; i++) {
                due("bridge(" + i + ")", real.bridge(i), plain.bridge(i));
                due("bridgesBy(" + i + ")", real.bridgesBy(i), plain.bridgesBy(i));
                for (int what = -1; what < 4; what++) {
                    due("part(" + i + ", " + what + ")", real.part(i, what), plain.part(i, what));
                }
            }
        }

        private void askLinks() {
            int m = plain.links.size();
            for (int l = -1; l < m + 1; l++) {
                for (int what = -1; what < 9; what++) {
                    due("linkOf(" + l + ", " + what + ")", real.linkOf(l, what), plain.linkOf(l, what));
                }
                for (int what = -1; what < 5; what++) {
                    due("without(0, " + l + ", " + what + ")", real.without(0, l, what),
                        plain.without(0, l, what));
                    due("without(2, " + l + ", " + what + ")", real.without(2, l, what), -1);
                }
                for (int i = -2; i < plain.n + 1; i++) {
                    due("ring(" + l + ", " + i + ")", real.ring(l, i), plain.ring(l, i));
                }
                for (int what = -1; what < 6; what++) {
                    due("story(2, " + l + ", " + what + ")", real.story(2, l, what),
                        plain.story(2, l, what));
                }
            }
        }

        private void askNodesAndNames() {
            for (int v = -1; v < plain.n + 1; v++) {
                for (int what = -1; what < 8; what++) {
                    due("node(" + v + ", " + what + ")", real.node(v, what), plain.node(v, what));
                }
                for (int what = -1; what < 5; what++) {
                    due("without(1, " + v + ", " + what + ")", real.without(1, v, what),
                        plain.without(1, v, what));
                }
                for (int what = -1; what < 12; what++) {
                    due("block(" + v + ", " + what + ")", real.block(v, what), plain.block(v, what));
                    due("land(" + v + ", " + what + ")", real.land(v, what), plain.land(v, what));
                }
                for (int kind = -1; kind < 4; kind++) {
                    for (int what = -1; what < 6 && kind != 2; what++) {
                        due("story(" + kind + ", " + v + ", " + what + ")", real.story(kind, v, what),
                            plain.story(kind, v, what));
                    }
                }
                for (int i = -2; i < plain.n + 1; i++) {
                    due("member(" + v + ", " + i + ")", real.member(v, i), plain.member(v, i));
                    due("child(" + v + ", " + i + ")", real.child(v, i), plain.child(v, i));
                    for (int what = -1; what < 3; what++) {
                        due("mending(" + v + ", " + i + ", " + what + ")", real.mending(v, i, what),
                            plain.mending(v, i, what));
                    }
                }
                due("centre(" + v + ")", real.centre(v), plain.centre(v));
            }
        }

        private void askPairs() {
            for (int u = -1; u < plain.n + 1; u++) {
                for (int v = -1; v < plain.n + 1; v++) {
                    askPair(u, v);
                    if (draw(thin) == 0) {
                        askHypothetical(u, v);
                    }
                }
            }
        }

        private void askPair(int u, int v) {
            String pair = "(" + u + ", " + v;
            due("doubleSafe" + pair + ")", real.doubleSafe(u, v), plain.doubleSafe(u, v));
            for (int kind = -1; kind < 4; kind++) {
                due("since" + pair + ", " + kind + ")", real.since(u, v, kind), plain.since(u, v, kind));
            }
            int most = Math.max(0, plain.way(u, v, -1));
            for (int i = -2; i < most + 2; i++) {
                due("way" + pair + ", " + i + ")", real.way(u, v, i), plain.way(u, v, i));
            }
            most = Math.max(0, plain.between(u, v, -1));
            for (int i = -2; i < most + 2; i++) {
                due("between" + pair + ", " + i + ")", real.between(u, v, i), plain.between(u, v, i));
            }
        }

        private void askHypothetical(int u, int v) {
            String pair = "(" + u + ", " + v;
            for (int what = -1; what < 3; what++) {
                due("would" + pair + ", " + what + ")", real.would(u, v, what), plain.would(u, v, what));
                due("wouldName" + pair + ", " + what + ")", real.wouldName(u, v, what),
                    plain.wouldName(u, v, what));
            }
        }
    }

    /** What holds of some links between n nodes, whenever they came. */
    private static final class Snap {
        final int n;
        final List<int[]> links;
        final int[] land;
        final int[] block;
        final boolean[] bridge;
        final int[] part;
        final int parts;

        Snap(int n, List<int[]> links) {
            this.n = n;
            this.links = links;
            int m = links.size();
            boolean[] none = new boolean[m];
            land = joined(none, -1);
            bridge = new boolean[m];
            for (int l = 0; l < m; l++) {
                boolean[] out = new boolean[m];
                out[l] = true;
                int[] label = joined(out, -1);
                bridge[l] = label[links.get(l)[0]] != label[links.get(l)[1]];
            }
            block = joined(bridge, -1);
            part = new int[m];
            parts = numberParts();
        }

        /** The least node that each is joined with, without some links and one node. */
        private int[] joined(boolean[] out, int gone) {
            int[] label = new int[n];
            for (int v = 0; v < n; v++) {
                label[v] = v;
            }
            boolean more = true;
            while (more) {
                more = false;
                for (int l = 0; l < links.size(); l++) {
                    int a = links.get(l)[0];
                    int b = links.get(l)[1];
                    if (!out[l] && a != gone && b != gone && label[a] != label[b]) {
                        int least = Math.min(label[a], label[b]);
                        label[a] = least;
                        label[b] = least;
                        more = true;
                    }
                }
            }
            return label;
        }

        int[] withoutNode(int x) {
            return joined(new boolean[links.size()], x);
        }

        int[] withoutLink(int l) {
            boolean[] out = new boolean[links.size()];
            out[l] = true;
            return joined(out, -1);
        }

        /** Two links are on one ring if no single node keeps them apart (Menger). */
        private int numberParts() {
            int m = links.size();
            int[][] sides = new int[m][n];
            for (int x = 0; x < n; x++) {
                int[] label = withoutNode(x);
                for (int l = 0; l < m; l++) {
                    int end = links.get(l)[0] == x ? links.get(l)[1] : links.get(l)[0];
                    sides[l][x] = label[end];
                }
            }
            int count = 0;
            for (int l = 0; l < m; l++) {
                part[l] = -1;
                for (int k = 0; k < l && part[l] < 0; k++) {
                    if (Arrays.equals(sides[k], sides[l])) {
                        part[l] = part[k];
                    }
                }
                if (part[l] < 0) {
                    part[l] = count++;
                }
            }
            return count;
        }

        /** A ring at both: neither a single link nor a single node keeps them apart (Menger). */
        boolean doubleSafe(int u, int v) {
            if (land[u] != land[v]) {
                return false;
            }
            for (int l = 0; l < links.size(); l++) {
                int[] label = withoutLink(l);
                if (label[u] != label[v]) {
                    return false;
                }
            }
            for (int x = 0; x < n; x++) {
                if (x != u && x != v) {
                    int[] label = withoutNode(x);
                    if (label[u] != label[v]) {
                        return false;
                    }
                }
            }
            return true;
        }

        int bridges() {
            int count = 0;
            for (boolean is : bridge) {
                count += is ? 1 : 0;
            }
            return count;
        }

        static int groups(int[] label) {
            TreeSet<Integer> all = new TreeSet<>();
            for (int x : label) {
                all.add(x);
            }
            return all.size();
        }

        TreeSet<Integer> partsAt(int v) {
            TreeSet<Integer> at = new TreeSet<>();
            for (int l = 0; l < links.size(); l++) {
                if (links.get(l)[0] == v || links.get(l)[1] == v) {
                    at.add(part[l]);
                }
            }
            return at;
        }
    }

    /** Groups of things under names, and what became of the names. */
    private static final class Book {
        final TreeMap<Integer, TreeSet<Integer>> now = new TreeMap<>();
        final Map<Integer, Integer> ended = new HashMap<>();
        final Map<Integer, Integer> into = new HashMap<>();
        final Map<Integer, Integer> most = new HashMap<>();

        void alone(int thing) {
            TreeSet<Integer> one = new TreeSet<>();
            one.add(thing);
            now.put(thing, one);
            most.put(thing, 1);
        }

        int nameOf(int thing) {
            for (Map.Entry<Integer, TreeSet<Integer>> e : now.entrySet()) {
                if (e.getValue().contains(thing)) {
                    return e.getKey();
                }
            }
            throw new IllegalStateException();
        }

        int makeOne(TreeSet<Integer> names, int link) {
            int kept = -1;
            for (int name : names) {
                if (kept < 0 || now.get(name).size() > now.get(kept).size()) {
                    kept = name;
                }
            }
            for (int name : names) {
                if (name != kept) {
                    ended.put(name, link);
                    into.put(name, kept);
                    now.get(kept).addAll(now.remove(name));
                }
            }
            most.put(kept, now.get(kept).size());
            return kept;
        }

        int heir(int name) {
            return into.containsKey(name) ? heir(into.get(name)) : name;
        }
    }

    /** The names and the forest as they grew, link by link. */
    private static final class History {
        final int n;
        final Book blocks = new Book();
        final Book lands = new Book();
        final Book parts = new Book();
        final Map<Integer, Integer> parent = new HashMap<>();
        final Map<Integer, Integer> upLink = new HashMap<>();
        final List<Snap> snaps = new ArrayList<>();
        final Map<Integer, Integer> endedBridge = new HashMap<>();
        int answer = -1;
        int turned;
        int became;
        int firstWas;
        int secondWas;

        History(int n, List<int[]> links) {
            this.n = n;
            for (int v = 0; v < n; v++) {
                blocks.alone(v);
                lands.alone(v);
            }
            snaps.add(new Snap(n, new ArrayList<>()));
            for (int l = 0; l < links.size(); l++) {
                come(l, new ArrayList<>(links.subList(0, l + 1)));
            }
        }

        private void come(int l, List<int[]> links) {
            Snap before = snaps.get(l);
            Snap after = new Snap(n, links);
            snaps.add(after);
            int u = links.get(l)[0];
            int v = links.get(l)[1];
            firstWas = blocks.nameOf(u);
            secondWas = blocks.nameOf(v);
            turned = 0;
            became = 1;
            answer = 0;
            if (before.land[u] != before.land[v]) {
                joinLands(l, u, v);
                answer = -2;
            } else if (before.block[u] != before.block[v]) {
                closeRing(l);
            }
            for (int k = 0; k < l; k++) {
                if (before.bridge[k] && !after.bridge[k]) {
                    endedBridge.put(k, l);
                    answer++;
                }
            }
            if (!after.bridge[l]) {
                endedBridge.put(l, l);
            }
            nameParts(l, after);
        }

        private void joinLands(int l, int u, int v) {
            int a = lands.nameOf(u);
            int b = lands.nameOf(v);
            int sizeA = lands.now.get(a).size();
            int sizeB = lands.now.get(b).size();
            boolean turnA = sizeA < sizeB || sizeA == sizeB && a > b;
            int end = blocks.nameOf(turnA ? u : v);
            int other = blocks.nameOf(turnA ? v : u);
            List<Integer> chain = upwards(end);
            List<Integer> by = new ArrayList<>();
            for (int x : chain) {
                by.add(upLink.get(x));
            }
            for (int i = 0; i + 1 < chain.size(); i++) {
                parent.put(chain.get(i + 1), chain.get(i));
                upLink.put(chain.get(i + 1), by.get(i));
            }
            parent.put(end, other);
            upLink.put(end, l);
            turned = chain.size();
            TreeSet<Integer> both = new TreeSet<>();
            both.add(a);
            both.add(b);
            lands.makeOne(both, l);
        }

        List<Integer> upwards(int name) {
            List<Integer> chain = new ArrayList<>();
            Integer x = name;
            while (x != null) {
                chain.add(x);
                x = parent.get(x);
            }
            return chain;
        }

        private void closeRing(int l) {
            List<Integer> a = upwards(firstWas);
            List<Integer> b = upwards(secondWas);
            int top = -1;
            for (int x : a) {
                if (top < 0 && b.contains(x)) {
                    top = x;
                }
            }
            TreeSet<Integer> on = new TreeSet<>();
            on.addAll(a.subList(0, a.indexOf(top) + 1));
            on.addAll(b.subList(0, b.indexOf(top) + 1));
            became = on.size();
            Integer above = parent.get(top);
            Integer by = upLink.get(top);
            int kept = blocks.makeOne(on, l);
            for (int x : on) {
                parent.remove(x);
                upLink.remove(x);
            }
            if (above != null) {
                parent.put(kept, above);
                upLink.put(kept, by);
            }
            for (Map.Entry<Integer, Integer> e : parent.entrySet()) {
                if (on.contains(e.getValue())) {
                    e.setValue(kept);
                }
            }
        }

        private void nameParts(int l, Snap after) {
            parts.alone(l);
            TreeSet<Integer> names = new TreeSet<>();
            for (int k = 0; k <= l; k++) {
                if (after.part[k] == after.part[l]) {
                    names.add(parts.nameOf(k));
                }
            }
            parts.makeOne(names, l);
        }

        List<Integer> children(int name) {
            TreeSet<Integer> all = new TreeSet<>();
            for (Map.Entry<Integer, Integer> e : parent.entrySet()) {
                if (e.getValue() == name) {
                    all.add(e.getKey());
                }
            }
            return new ArrayList<>(all);
        }

        int landOfBlock(int name) {
            return lands.nameOf(blocks.now.get(name).first());
        }
    }

    /** The document's methods in their plainest form. */
    private static final class Plain {
        int n = 8;
        int state = 0;
        List<int[]> links = new ArrayList<>();
        private History history = null;
        private int[][][] sinces = null;
        private int[][] apart = null;
        private int[] bestFound = null;

        private void changed() {
            history = null;
            sinces = null;
            apart = null;
            bestFound = null;
        }

        History history() {
            if (history == null) {
                history = new History(n, links);
                checkItself();
            }
            return history;
        }

        /** The forest's blocks must be what the links alone say. */
        private void checkItself() {
            Snap snap = history.snaps.get(links.size());
            for (int u = 0; u < n; u++) {
                for (int v = 0; v < n; v++) {
                    boolean one = history.blocks.nameOf(u) == history.blocks.nameOf(v);
                    boolean land = history.lands.nameOf(u) == history.lands.nameOf(v);
                    if (one != (snap.block[u] == snap.block[v]) || land != (snap.land[u] == snap.land[v])) {
                        throw new IllegalStateException("the plain program is at odds with itself");
                    }
                }
            }
        }

        Snap last() {
            return history().snaps.get(links.size());
        }

        String told() {
            StringBuilder text = new StringBuilder();
            for (int[] l : links) {
                text.append(l[0]).append('-').append(l[1]).append(' ');
            }
            return text.toString();
        }

        boolean isNode(int v) {
            return v >= 0 && v < n;
        }

        boolean arePair(int u, int v) {
            return isNode(u) && isNode(v) && u != v;
        }

        boolean nodes(int k) {
            if (k < 2 || k > 32) {
                return false;
            }
            n = k;
            links = new ArrayList<>();
            changed();
            return true;
        }

        int link(int u, int v) {
            if (!arePair(u, v) || links.size() == 64) {
                return -1;
            }
            links.add(new int[] {u, v});
            changed();
            return history().answer;
        }

        int undo(int k) {
            if (k < 0 || k > links.size()) {
                return -1;
            }
            links = new ArrayList<>(links.subList(0, links.size() - k));
            changed();
            return links.size();
        }

        int rain(int k) {
            if (k < 1 || k > 64 || links.size() + k > 64) {
                return -1;
            }
            for (int i = 0; i < k; i++) {
                int a = draw(n);
                int b = draw(n - 1);
                if (b >= a) {
                    b++;
                }
                links.add(new int[] {a, b});
            }
            changed();
            return links.size();
        }

        private int draw(int m) {
            long next = 1664525L * state + 1013904223L;
            state = (int) next;
            long top = (next & 0xFFFFFFFFL) / 256;
            return (int) (top % m);
        }

        int state(int v) {
            int was = state;
            state = v;
            return was;
        }

        int linkOf(int l, int what) {
            if (l < 0 || l >= links.size()) {
                return -1;
            }
            Snap s = last();
            History h = history();
            int[] ends = links.get(l);
            int[] label = s.withoutLink(l);
            switch (what) {
                case 0: return ends[0];
                case 1: return ends[1];
                case 2: return s.bridge[l] ? 1 : 0;
                case 3: return h.endedBridge.getOrDefault(l, -1);
                case 4: return s.part[l];
                case 5: return s.bridge[l] ? count(label, label[ends[0]]) : -1;
                case 6: return s.bridge[l] ? count(label, label[ends[1]]) : -1;
                case 7: return h.parts.nameOf(l);
                default: return -1;
            }
        }

        private static int count(int[] row, int value) {
            int c = 0;
            for (int x : row) {
                c += x == value ? 1 : 0;
            }
            return c;
        }

        int bridge(int i) {
            List<Integer> all = new ArrayList<>();
            for (int l = 0; l < links.size(); l++) {
                if (last().bridge[l]) {
                    all.add(l);
                }
            }
            return pick(all, i);
        }

        /** The i-th, or how many. */
        private static int pick(List<Integer> all, int i) {
            if (i == -1) {
                return all.size();
            }
            return only(all, i);
        }

        private static int only(List<Integer> all, int i) {
            return i < 0 || i >= all.size() ? -1 : all.get(i);
        }

        int node(int v, int what) {
            if (!isNode(v)) {
                return -1;
            }
            History h = history();
            Snap s = last();
            int mine = 0;
            int bridges = 0;
            for (int l = 0; l < links.size(); l++) {
                if (links.get(l)[0] == v || links.get(l)[1] == v) {
                    mine++;
                    bridges += s.bridge[l] ? 1 : 0;
                }
            }
            switch (what) {
                case 0: return h.blocks.nameOf(v);
                case 1: return h.lands.nameOf(v);
                case 2: return mine;
                case 3: return bridges;
                case 4: return s.partsAt(v).size();
                case 5: return s.partsAt(v).size() >= 2 ? 1 : 0;
                case 6: return h.upwards(h.blocks.nameOf(v)).size() - 1;
                default: return -1;
            }
        }

        private int bridgesAtBlock(int name) {
            TreeSet<Integer> nodes = history().blocks.now.get(name);
            int c = 0;
            for (int l = 0; l < links.size(); l++) {
                if (last().bridge[l]) {
                    c += nodes.contains(links.get(l)[0]) || nodes.contains(links.get(l)[1]) ? 1 : 0;
                }
            }
            return c;
        }

        int block(int name, int what) {
            History h = history();
            if (!h.blocks.now.containsKey(name)) {
                return -1;
            }
            TreeSet<Integer> nodes = h.blocks.now.get(name);
            Snap s = last();
            int within = 0;
            TreeSet<Integer> parts = new TreeSet<>();
            Map<Integer, TreeSet<Integer>> at = new HashMap<>();
            for (int l = 0; l < links.size(); l++) {
                int[] e = links.get(l);
                if (nodes.contains(e[0]) && nodes.contains(e[1])) {
                    within++;
                    parts.add(s.part[l]);
                    at.computeIfAbsent(e[0], k -> new TreeSet<>()).add(s.part[l]);
                    at.computeIfAbsent(e[1], k -> new TreeSet<>()).add(s.part[l]);
                }
            }
            int cuts = 0;
            for (TreeSet<Integer> t : at.values()) {
                cuts += t.size() >= 2 ? 1 : 0;
            }
            int below = 0;
            for (int v = 0; v < n; v++) {
                below += h.upwards(h.blocks.nameOf(v)).contains(name) ? 1 : 0;
            }
            switch (what) {
                case 0: return nodes.size();
                case 1: return nodes.first();
                case 2: return within;
                case 3: return bridgesAtBlock(name);
                case 4: return h.parent.getOrDefault(name, -1);
                case 5: return h.upLink.getOrDefault(name, -1);
                case 6: return h.upwards(name).size() - 1;
                case 7: return h.children(name).size();
                case 8: return cuts;
                case 9: return parts.size();
                case 10: return below;
                default: return -1;
            }
        }

        int member(int name, int i) {
            TreeSet<Integer> nodes = history().blocks.now.get(name);
            return nodes == null ? -1 : only(new ArrayList<>(nodes), i);
        }

        int child(int name, int i) {
            History h = history();
            return h.blocks.now.containsKey(name) ? only(h.children(name), i) : -1;
        }

        /** Bridges between each two nodes' blocks, by spreading from each node (-1: no way). */
        private int[][] apart() {
            if (apart == null) {
                apart = new int[n][n];
                for (int u = 0; u < n; u++) {
                    spreadFrom(u);
                }
            }
            return apart;
        }

        private void spreadFrom(int u) {
            Snap s = last();
            int[] far = apart[u];
            Arrays.fill(far, 1000);
            far[u] = 0;
            boolean more = true;
            while (more) {
                more = false;
                for (int l = 0; l < links.size(); l++) {
                    int a = links.get(l)[0];
                    int b = links.get(l)[1];
                    int cost = s.bridge[l] ? 1 : 0;
                    if (far[a] + cost < far[b]) {
                        far[b] = far[a] + cost;
                        more = true;
                    }
                    if (far[b] + cost < far[a]) {
                        far[a] = far[b] + cost;
                        more = true;
                    }
                }
            }
            for (int v = 0; v < n; v++) {
                far[v] = far[v] >= 1000 ? -1 : far[v];
            }
        }

        private List<Integer> blocksOfLand(int name) {
            List<Integer> all = new ArrayList<>();
            for (int b : history().blocks.now.keySet()) {
                if (history().landOfBlock(b) == name) {
                    all.add(b);
                }
            }
            return all;
        }

        private List<Integer> leavesInRow(int land) {
            List<Integer> row = new ArrayList<>();
            for (int b : blocksOfLand(land)) {
                if (!history().parent.containsKey(b)) {
                    walkDown(b, row);
                }
            }
            List<Integer> leaves = new ArrayList<>();
            for (int b : row) {
                if (bridgesAtBlock(b) == 1) {
                    leaves.add(b);
                }
            }
            return leaves;
        }

        private void walkDown(int block, List<Integer> row) {
            row.add(block);
            for (int c : history().children(block)) {
                walkDown(c, row);
            }
        }

        private int mend(int land) {
            int l = leavesInRow(land).size();
            return l == 0 ? 0 : (l + 1) / 2;
        }

        private int[] longest(int land) {
            List<Integer> bs = blocksOfLand(land);
            int[] found = {-1, -1, -1};
            for (int a : bs) {
                for (int b : bs) {
                    int d = apart()[a][b];
                    if (a <= b && d > found[0]) {
                        found = new int[] {d, a, b};
                    }
                }
            }
            return found;
        }

        int land(int name, int what) {
            History h = history();
            if (!h.lands.now.containsKey(name)) {
                return -1;
            }
            Snap s = last();
            TreeSet<Integer> nodes = h.lands.now.get(name);
            int bridges = 0;
            int mine = 0;
            TreeSet<Integer> parts = new TreeSet<>();
            for (int l = 0; l < links.size(); l++) {
                if (nodes.contains(links.get(l)[0])) {
                    mine++;
                    bridges += s.bridge[l] ? 1 : 0;
                    parts.add(s.part[l]);
                }
            }
            int root = -1;
            for (int b : blocksOfLand(name)) {
                root = h.parent.containsKey(b) ? root : b;
            }
            int cuts = 0;
            for (int v : nodes) {
                cuts += s.partsAt(v).size() >= 2 ? 1 : 0;
            }
            switch (what) {
                case 0: return nodes.size();
                case 1: return blocksOfLand(name).size();
                case 2: return bridges;
                case 3: return mine;
                case 4: return root;
                case 5: return mend(name);
                case 6: return cuts;
                case 7: return longest(name)[0];
                case 8: return longest(name)[1];
                case 9: return longest(name)[2];
                case 10: return parts.size();
                default: return -1;
            }
        }

        int story(int kind, int name, int what) {
            History h = history();
            Book book = kind == 0 ? h.blocks : kind == 1 ? h.lands : kind == 2 ? h.parts : null;
            if (book == null || !book.most.containsKey(name)) {
                return -1;
            }
            switch (what) {
                case 0: return book.now.containsKey(name) ? 1 : 0;
                case 1: return book.ended.getOrDefault(name, -1);
                case 2: return book.into.getOrDefault(name, -1);
                case 3: return book.most.get(name);
                case 4: return book.heir(name);
                default: return -1;
            }
        }

        int latest(int what) {
            if (links.isEmpty()) {
                return -1;
            }
            History h = history();
            switch (what) {
                case 0: return h.turned;
                case 1: return h.became;
                case 2: return h.firstWas;
                case 3: return h.secondWas;
                default: return -1;
            }
        }

        int doubleSafe(int u, int v) {
            if (!arePair(u, v)) {
                return -1;
            }
            return last().doubleSafe(u, v) ? 1 : 0;
        }

        int way(int u, int v, int i) {
            if (!isNode(u) || !isNode(v) || last().land[u] != last().land[v]) {
                return -1;
            }
            // A bridge is on the way if it keeps both apart; those nearer to u come first.
            TreeMap<Integer, Integer> byPlace = new TreeMap<>();
            for (int l = 0; l < links.size(); l++) {
                int[] label = last().withoutLink(l);
                if (label[u] != label[v]) {
                    int near = Math.min(apart()[u][links.get(l)[0]], apart()[u][links.get(l)[1]]);
                    byPlace.put(near, l);
                }
            }
            return pick(new ArrayList<>(byPlace.values()), i);
        }

        int since(int u, int v, int kind) {
            if (!arePair(u, v) || kind < 0 || kind > 2) {
                return -1;
            }
            if (sinces == null) {
                fillSinces();
            }
            return sinces[kind][u][v];
        }

        private void fillSinces() {
            sinces = new int[3][n][n];
            for (int u = 0; u < n; u++) {
                for (int v = 0; v < n; v++) {
                    for (int kind = 0; kind < 3; kind++) {
                        sinces[kind][u][v] = u == v ? -1 : firstThat(u, v, kind);
                    }
                }
            }
        }

        private int firstThat(int u, int v, int kind) {
            if (!holds(last(), u, v, kind)) {
                return -1;
            }
            for (int k = 0; k <= links.size(); k++) {
                if (holds(history().snaps.get(k), u, v, kind)) {
                    return k;
                }
            }
            throw new IllegalStateException();
        }

        private static boolean holds(Snap s, int u, int v, int kind) {
            if (kind == 0) {
                return s.land[u] == s.land[v];
            }
            return kind == 1 ? s.block[u] == s.block[v] : s.doubleSafe(u, v);
        }

        private List<int[]> withOne(int u, int v) {
            List<int[]> more = new ArrayList<>(links);
            more.add(new int[] {u, v});
            return more;
        }

        int would(int u, int v, int what) {
            if (!arePair(u, v)) {
                return -1;
            }
            Snap s = new Snap(n, withOne(u, v));
            int ended = 0;
            for (int l = 0; l < links.size(); l++) {
                ended += last().bridge[l] && !s.bridge[l] ? 1 : 0;
            }
            switch (what) {
                case 0: return ended;
                case 1: return count(s.block, s.block[u]);
                default: return -1;
            }
        }

        int wouldName(int u, int v, int kind) {
            if (!arePair(u, v) || kind < 0 || kind > 1) {
                return -1;
            }
            History h = new History(n, withOne(u, v));
            return kind == 0 ? h.blocks.nameOf(u) : h.lands.nameOf(u);
        }

        int best(int what) {
            if (bestFound == null) {
                bestFound = new int[] {-1, -1, -1};
                int most = 0;
                for (int u = 0; u < n; u++) {
                    for (int v = u + 1; v < n; v++) {
                        int ends = would(u, v, 0);
                        if (ends > most) {
                            most = ends;
                            bestFound = new int[] {ends, u, v};
                        }
                    }
                }
            }
            return what < 0 || what > 2 ? -1 : bestFound[what];
        }

        int worst(int what) {
            int most = -1;
            int which = -1;
            for (int l = 0; l < links.size(); l++) {
                if (last().bridge[l] && linkOf(l, 5) * linkOf(l, 6) > most) {
                    most = linkOf(l, 5) * linkOf(l, 6);
                    which = l;
                }
            }
            return what == 0 ? which : what == 1 ? most : -1;
        }

        int part(int p, int what) {
            Snap s = last();
            if (p < 0 || p >= s.parts) {
                return -1;
            }
            List<Integer> mine = new ArrayList<>();
            TreeSet<Integer> nodes = new TreeSet<>();
            for (int l = 0; l < links.size(); l++) {
                if (s.part[l] == p) {
                    mine.add(l);
                    nodes.add(links.get(l)[0]);
                    nodes.add(links.get(l)[1]);
                }
            }
            switch (what) {
                case 0: return mine.size();
                case 1: return nodes.size();
                case 2: return mine.get(0);
                default: return -1;
            }
        }

        int centre(int name) {
            if (!history().lands.now.containsKey(name)) {
                return -1;
            }
            int best = -1;
            int least = 1000;
            for (int a : blocksOfLand(name)) {
                int far = 0;
                for (int b : blocksOfLand(name)) {
                    far = Math.max(far, apart()[a][b]);
                }
                if (far < least) {
                    least = far;
                    best = a;
                }
            }
            return best;
        }

        int between(int u, int v, int i) {
            if (!arePair(u, v) || last().land[u] != last().land[v]) {
                return -1;
            }
            List<Integer> all = new ArrayList<>();
            for (int x = 0; x < n; x++) {
                int[] label = last().withoutNode(x);
                if (x != u && x != v && label[u] != label[v]) {
                    // All that x leaves with u are ahead of x.
                    int ahead = 0;
                    for (int y : all) {
                        ahead += label[u] == label[y] ? 1 : 0;
                    }
                    all.add(ahead, x);
                }
            }
            return pick(all, i);
        }

        int mending(int name, int k, int what) {
            if (!history().lands.now.containsKey(name) || k < 0 || k >= mend(name)) {
                return -1;
            }
            List<Integer> leaves = leavesInRow(name);
            int one = leaves.get(k);
            int other = leaves.get(k + leaves.size() / 2);
            return what == 0 ? member(one, 0) : what == 1 ? member(other, 0) : -1;
        }

        int without(int kind, int number, int what) {
            boolean is = kind == 0 ? number >= 0 && number < links.size() : kind == 1 && isNode(number);
            if (!is) {
                return -1;
            }
            List<int[]> left = new ArrayList<>();
            for (int l = 0; l < links.size(); l++) {
                int[] e = links.get(l);
                if (kind == 0 ? l != number : e[0] != number && e[1] != number) {
                    left.add(e);
                }
            }
            Snap s = new Snap(n, left);
            switch (what) {
                case 0: return Snap.groups(s.land);
                case 1: return Snap.groups(s.block);
                case 2: return s.bridges();
                case 3: return s.parts;
                default: return -1;
            }
        }

        int ring(int l, int i) {
            if (l < 0 || l >= links.size() || last().bridge[l]) {
                return -1;
            }
            List<Integer> path = new ArrayList<>();
            path.add(links.get(l)[1]);
            for (int length = 1; length < n; length++) {
                if (reach(path, links.get(l)[0], length, l)) {
                    return pick(path, i);
                }
            }
            throw new IllegalStateException();
        }

        /** Whether the path can go on, by the least nodes first, to an end in so many links. */
        private boolean reach(List<Integer> path, int end, int left, int not) {
            int at = path.get(path.size() - 1);
            if (left == 0) {
                return at == end;
            }
            TreeSet<Integer> next = new TreeSet<>();
            for (int l = 0; l < links.size(); l++) {
                int[] e = links.get(l);
                if (l != not && (e[0] == at || e[1] == at)) {
                    next.add(e[0] == at ? e[1] : e[0]);
                }
            }
            for (int x : next) {
                if (!path.contains(x) && last().block[x] == last().block[end]) {
                    path.add(x);
                    if (reach(path, end, left - 1, not)) {
                        return true;
                    }
                    path.remove(path.size() - 1);
                }
            }
            return false;
        }

        int bridgesBy(int k) {
            return k < 0 || k > links.size() ? -1 : history().snaps.get(k).bridges();
        }

        int look(int what) {
            Snap s = last();
            int cuts = 0;
            int frail = 0;
            int safe = 0;
            int deepest = 0;
            for (int u = 0; u < n; u++) {
                cuts += node(u, 5);
                deepest = Math.max(deepest, node(u, 6));
                for (int v = u + 1; v < n; v++) {
                    frail += s.land[u] == s.land[v] && s.block[u] != s.block[v] ? 1 : 0;
                    safe += what == 10 && s.doubleSafe(u, v) ? 1 : 0;
                }
            }
            int mend = 0;
            for (int name : history().lands.now.keySet()) {
                mend += mend(name);
            }
            switch (what) {
                case 0: return n;
                case 1: return links.size();
                case 2: return s.bridges();
                case 3: return Snap.groups(s.block);
                case 4: return Snap.groups(s.land);
                case 5: return s.parts;
                case 6: return cuts;
                case 7: return frail;
                case 8: return mend;
                case 9: return state;
                case 10: return safe;
                case 11: return deepest;
                default: return -10;
            }
        }
    }
}
