import java.util.Arrays;

/**
 * Links come one by one between nodes: which of them are bridges, which nodes are safe together
 * however one link breaks, which however one node fails, and what more the document asks.
 *
 * All that is told follows from the links as they came, so taking one back is coming again
 * without it. Every row is made with the object and used again: no call makes an object.
 */
public final class SafeBlocks {
    public static final int NONE = -1;

    private static final int FIRST_NODES = 8;
    private static final int LEAST_NODES = 2;
    private static final int MOST_NODES = 32;
    private static final int MOST_LINKS = 64;
    private static final int CAME_AS_BRIDGE = NONE - 1;
    private static final int NO_SUCH_LOOK = NONE - 9;

    private final Web now;
    private final Web trial;
    private final Forest forest;
    private final PartBook book;
    private final Round round;
    private int drawn;

    public SafeBlocks() {
        now = new Web();
        trial = new Web();
        forest = new Forest();
        book = new PartBook();
        round = new Round();
        drawn = 0;
        now.clear(FIRST_NODES);
        readAgain();
    }

    // ---- what changes something

    public boolean nodes(int n) {
        if (n < LEAST_NODES || n > MOST_NODES) {
            return false;
        }
        now.clear(n);
        readAgain();
        return true;
    }

    public int link(int u, int v) {
        if (!areTwoNodes(u, v) || now.links >= MOST_LINKS) {
            return NONE;
        }
        int answer = now.add(u, v);
        readAgain();
        return answer;
    }

    public int undo(int k) {
        if (k < 0 || k > now.links) {
            return NONE;
        }
        if (k > 0) {
            now.growAgain(now.links - k);
            readAgain();
        }
        return now.links;
    }

    public int rain(int k) {
        if (k < 1 || k > MOST_LINKS - now.links) {
            return NONE;
        }
        for (int drop = 0; drop < k; drop++) {
            int u = draw(now.nodes);
            int v = draw(now.nodes - 1);
            now.add(u, v < u ? v : v + 1);
        }
        readAgain();
        return now.links;
    }

    public int state(int v) {
        int was = drawn;
        drawn = v;
        return was;
    }

    private int draw(int choices) {
        drawn = drawn * 1664525 + 1013904223;
        return choices < 1 ? 0 : (drawn >>> 8) % choices;
    }

    private void readAgain() {
        forest.read(now);
        book.read(now);
    }

    // ---- links and nodes

    public int linkOf(int link, int what) {
        if (!isLink(link)) {
            return NONE;
        }
        switch (what) {
            case 0:
                return now.first[link];
            case 1:
                return now.second[link];
            case 2:
                return now.isBridge(link) ? 1 : 0;
            case 3:
                return now.endedBy[link];
            case 4:
                return book.numberOf[now.parts.of[link]];
            case 5:
                return sideOf(link, now.first[link], now.second[link]);
            case 6:
                return sideOf(link, now.second[link], now.first[link]);
            case 7:
                return now.parts.of[link];
            default:
                return NONE;
        }
    }

    private int sideOf(int link, int end, int otherEnd) {
        if (!now.isBridge(link)) {
            return NONE;
        }
        if (now.upLink[end] == link) {
            return forest.below[now.blocks.of[end]];
        }
        return now.lands.size[now.lands.of[end]] - forest.below[now.blocks.of[otherEnd]];
    }

    public int bridge(int i) {
        int seen = 0;
        for (int link = 0; link < now.links; link++) {
            if (now.isBridge(link)) {
                if (seen == i) {
                    return link;
                }
                seen++;
            }
        }
        return i == NONE ? seen : NONE;
    }

    public int node(int node, int what) {
        if (!isNode(node)) {
            return NONE;
        }
        switch (what) {
            case 0:
                return now.blocks.of[node];
            case 1:
                return now.lands.of[node];
            case 2:
                return now.linksAt(node);
            case 3:
                return now.bridgesAt(node);
            case 4:
                return Long.bitCount(book.at[node]);
            case 5:
                return book.isCut(node) ? 1 : 0;
            case 6:
                return forest.deep[now.blocks.of[node]];
            default:
                return NONE;
        }
    }

    // ---- blocks

    public int block(int name, int what) {
        if (!now.blocks.lives(name)) {
            return NONE;
        }
        switch (what) {
            case 0:
                return now.blocks.size[name];
            case 1:
                return member(name, 0);
            case 2:
                return now.linksWithin(name);
            case 3:
                return forest.bridgesAt[name];
            case 4:
                return forest.parent[name];
            case 5:
                return forest.upLink[name];
            case 6:
                return forest.deep[name];
            case 7:
                return forest.children[name];
            case 8:
                return book.cutsWithin(now.blocks, name);
            case 9:
                return Long.bitCount(book.allAt(now.blocks, name) & book.onRings);
            case 10:
                return forest.below[name];
            default:
                return NONE;
        }
    }

    public int member(int name, int i) {
        if (!now.blocks.lives(name)) {
            return NONE;
        }
        int seen = 0;
        for (int node = 0; node < now.nodes; node++) {
            if (now.blocks.of[node] == name) {
                if (seen == i) {
                    return node;
                }
                seen++;
            }
        }
        return NONE;
    }

    public int child(int name, int i) {
        if (!now.blocks.lives(name)) {
            return NONE;
        }
        int seen = 0;
        for (int other = 0; other < now.nodes; other++) {
            if (now.blocks.lives(other) && forest.parent[other] == name) {
                if (seen == i) {
                    return other;
                }
                seen++;
            }
        }
        return NONE;
    }

    // ---- lands

    public int land(int name, int what) {
        if (!now.lands.lives(name)) {
            return NONE;
        }
        switch (what) {
            case 0:
                return now.lands.size[name];
            case 1:
                return forest.blocksOf(now.lands, name);
            case 2:
                return now.bridgesOf(name);
            case 3:
                return now.linksOf(name);
            case 4:
                return forest.rootOf(now.lands, name);
            case 5:
                return mendOf(name);
            case 6:
                return book.cutsOf(now.lands, name);
            case 7:
                return forest.longest(now.lands, name);
            case 8:
                return forest.longestLesser(now.lands, name);
            case 9:
                return forest.longestOther(now.lands, name);
            case 10:
                return Long.bitCount(book.allAt(now.lands, name));
            default:
                return NONE;
        }
    }

    private int mendOf(int name) {
        return (forest.leavesOf(now.lands, name) + 1) / 2;
    }

    public int centre(int name) {
        return now.lands.lives(name) ? forest.middle(now.lands, name) : NONE;
    }

    public int mending(int name, int k, int what) {
        if (!now.lands.lives(name) || k < 0 || k >= mendOf(name)) {
            return NONE;
        }
        int behind = forest.leavesOf(now.lands, name) / 2;
        switch (what) {
            case 0:
                return member(forest.leaf(now.lands, name, k), 0);
            case 1:
                return member(forest.leaf(now.lands, name, k + behind), 0);
            default:
                return NONE;
        }
    }

    // ---- what has been

    public int story(int kind, int name, int what) {
        Names names = namesOf(kind);
        if (names == null || name < 0 || name >= names.items) {
            return NONE;
        }
        switch (what) {
            case 0:
                return names.lives(name) ? 1 : 0;
            case 1:
                return names.endedBy[name];
            case 2:
                return names.into[name];
            case 3:
                return names.size[name];
            case 4:
                return names.heir(name);
            default:
                return NONE;
        }
    }

    private Names namesOf(int kind) {
        switch (kind) {
            case 0:
                return now.blocks;
            case 1:
                return now.lands;
            case 2:
                return now.parts;
            default:
                return null;
        }
    }

    public int latest(int what) {
        if (now.links == 0) {
            return NONE;
        }
        switch (what) {
            case 0:
                return now.turned;
            case 1:
                return now.joined;
            case 2:
                return now.firstWas;
            case 3:
                return now.secondWas;
            default:
                return NONE;
        }
    }

    public int since(int u, int v, int kind) {
        if (!areTwoNodes(u, v)) {
            return NONE;
        }
        int steps = now.trace(u, v);
        if (steps == NONE) {
            return NONE;
        }
        switch (kind) {
            case 0:
                return now.landSince(steps);
            case 1:
                return now.blockSince(steps);
            case 2:
                return now.ringSince(steps);
            default:
                return NONE;
        }
    }

    public int bridgesBy(int k) {
        return k < 0 || k > now.links ? NONE : now.bridgesAmong(k);
    }

    // ---- between two nodes

    public int doubleSafe(int u, int v) {
        if (!areTwoNodes(u, v)) {
            return NONE;
        }
        return book.shareRing(u, v) ? 1 : 0;
    }

    public int way(int u, int v, int i) {
        if (!isNode(u) || !isNode(v)) {
            return NONE;
        }
        int steps = now.trace(u, v);
        if (steps == NONE) {
            return NONE;
        }
        int seen = 0;
        for (int step = 0; step < steps; step++) {
            if (now.isBridge(now.wayLink[step])) {
                if (seen == i) {
                    return now.wayLink[step];
                }
                seen++;
            }
        }
        return i == NONE ? seen : NONE;
    }

    public int between(int u, int v, int i) {
        if (!areTwoNodes(u, v)) {
            return NONE;
        }
        int steps = now.trace(u, v);
        if (steps == NONE) {
            return NONE;
        }
        int seen = 0;
        for (int step = 1; step < steps; step++) {
            if (now.leavesPart(step)) {
                if (seen == i) {
                    return now.wayNode[step];
                }
                seen++;
            }
        }
        return i == NONE ? seen : NONE;
    }

    public int would(int u, int v, int what) {
        if (!areTwoNodes(u, v)) {
            return NONE;
        }
        int steps = now.trace(u, v);
        switch (what) {
            case 0:
                return steps == NONE ? 0 : now.bridgesOnWay(steps);
            case 1:
                return now.blocks.sizeOf(wouldBeOne(u, steps));
            default:
                return NONE;
        }
    }

    public int wouldName(int u, int v, int kind) {
        if (!areTwoNodes(u, v)) {
            return NONE;
        }
        switch (kind) {
            case 0:
                return now.blocks.keeper(wouldBeOne(u, now.trace(u, v)));
            case 1:
                return now.lands.keeper(bit(now.lands.of[u]) | bit(now.lands.of[v]));
            default:
                return NONE;
        }
    }

    private long wouldBeOne(int u, int steps) {
        return steps == NONE ? bit(now.blocks.of[u]) : now.blocksOnWay(steps);
    }

    // ---- the most and the least of all

    public int best(int what) {
        int most = 0;
        int lesser = NONE;
        int other = NONE;
        for (int u = 0; u < now.nodes; u++) {
            forest.measure(now.blocks.of[u]);
            for (int v = u + 1; v < now.nodes; v++) {
                int away = forest.away[now.blocks.of[v]];
                if (away > most) {
                    most = away;
                    lesser = u;
                    other = v;
                }
            }
        }
        switch (what) {
            case 0:
                return most == 0 ? NONE : most;
            case 1:
                return lesser;
            case 2:
                return other;
            default:
                return NONE;
        }
    }

    public int worst(int what) {
        int most = NONE;
        int which = NONE;
        for (int link = 0; link < now.links; link++) {
            int product = productOfSides(link);
            if (product > most) {
                most = product;
                which = link;
            }
        }
        switch (what) {
            case 0:
                return which;
            case 1:
                return most;
            default:
                return NONE;
        }
    }

    private int productOfSides(int link) {
        if (!now.isBridge(link)) {
            return NONE;
        }
        int u = now.first[link];
        int v = now.second[link];
        return sideOf(link, u, v) * sideOf(link, v, u);
    }

    // ---- parts, rings and what would be without something

    public int part(int part, int what) {
        if (part < 0 || part >= book.count) {
            return NONE;
        }
        switch (what) {
            case 0:
                return now.parts.size[book.nameOf[part]];
            case 1:
                return book.nodesAt(book.nameOf[part]);
            case 2:
                return book.least[part];
            default:
                return NONE;
        }
    }

    public int without(int kind, int number, int what) {
        boolean ofLink = kind == 0 && isLink(number);
        boolean ofNode = kind == 1 && isNode(number);
        if (!ofLink && !ofNode || what < 0 || what > 3) {
            return NONE;
        }
        trial.clear(now.nodes);
        for (int link = 0; link < now.links; link++) {
            if (ofLink ? link != number : !now.isAt(link, number)) {
                trial.add(now.first[link], now.second[link]);
            }
        }
        switch (what) {
            case 0:
                return trial.lands.groups;
            case 1:
                return trial.blocks.groups;
            case 2:
                return trial.bridgesAmong(trial.links);
            default:
                return trial.parts.groups;
        }
    }

    public int ring(int link, int i) {
        if (!isLink(link) || now.isBridge(link)) {
            return NONE;
        }
        int length = round.measure(now, link);
        if (i == NONE) {
            return length;
        }
        return i < 0 || i >= length ? NONE : round.nodeAt(now, link, i);
    }

    // ---- the whole

    public int look(int what) {
        switch (what) {
            case 0:
                return now.nodes;
            case 1:
                return now.links;
            case 2:
                return now.bridgesAmong(now.links);
            case 3:
                return now.blocks.groups;
            case 4:
                return now.lands.groups;
            case 5:
                return now.parts.groups;
            case 6:
                return book.allCuts();
            case 7:
                return now.lands.pairs() - now.blocks.pairs();
            case 8:
                return mendOfAll();
            case 9:
                return drawn;
            case 10:
                return book.ringPairs();
            case 11:
                return forest.deepest();
            default:
                return NO_SUCH_LOOK;
        }
    }

    private int mendOfAll() {
        int sum = 0;
        for (int name = 0; name < now.nodes; name++) {
            if (now.lands.lives(name)) {
                sum += mendOf(name);
            }
        }
        return sum;
    }

    private boolean isNode(int node) {
        return node >= 0 && node < now.nodes;
    }

    private boolean isLink(int link) {
        return link >= 0 && link < now.links;
    }

    private boolean areTwoNodes(int u, int v) {
        return isNode(u) && isNode(v) && u != v;
    }

    private static long bit(int i) {
        return 1L << i;
    }

    private static boolean holds(long set, int i) {
        return (set >>> i & 1L) != 0L;
    }

    /**
     * Things in groups that only ever grow into one another, each group under the name of one
     * of its things. The sizes of ended names stay: a name never has more than as it ends.
     */
    private static final class Names {
        final int[] of;
        final int[] size;
        final int[] endedBy;
        final int[] into;
        int items;
        int groups;

        Names(int most) {
            of = new int[most];
            size = new int[most];
            endedBy = new int[most];
            into = new int[most];
            items = 0;
            groups = 0;
        }

        void clear() {
            items = 0;
            groups = 0;
        }

        void begin() {
            if (items >= of.length) {
                return;
            }
            of[items] = items;
            size[items] = 1;
            endedBy[items] = NONE;
            into[items] = NONE;
            items++;
            groups++;
        }

        boolean lives(int name) {
            return name >= 0 && name < items && endedBy[name] == NONE;
        }

        int keeper(long names) {
            int best = NONE;
            for (int name = 0; name < items; name++) {
                if (holds(names, name) && (best == NONE || size[name] > size[best])) {
                    best = name;
                }
            }
            return best;
        }

        void join(long names, int byLink) {
            int kept = keeper(names);
            if (kept == NONE) {
                return;
            }
            for (int name = 0; name < items; name++) {
                if (name != kept && holds(names, name)) {
                    endedBy[name] = byLink;
                    into[name] = kept;
                    size[kept] += size[name];
                    groups--;
                }
            }
            for (int item = 0; item < items; item++) {
                if (holds(names, of[item])) {
                    of[item] = kept;
                }
            }
        }

        int sizeOf(long names) {
            int sum = 0;
            for (int name = 0; name < items; name++) {
                if (holds(names, name)) {
                    sum += size[name];
                }
            }
            return sum;
        }

        int heir(int name) {
            int last = name;
            for (int step = 0; step < items && into[last] != NONE; step++) {
                last = into[last];
            }
            return last;
        }

        /** The link by which two things came into one group; NONE if they never did. */
        int meeting(int item, int otherItem) {
            int a = item;
            int b = otherItem;
            int last = NONE;
            for (int step = 0; step < 2 * items && a != b; step++) {
                // The name that ends first goes on first, so neither can run past the meeting.
                boolean goesA = endsBefore(a, b);
                last = goesA ? endedBy[a] : endedBy[b];
                if (last == NONE) {
                    return NONE;
                }
                if (goesA) {
                    a = into[a];
                } else {
                    b = into[b];
                }
            }
            return last;
        }

        private boolean endsBefore(int name, int otherName) {
            if (endedBy[name] == NONE) {
                return false;
            }
            return endedBy[otherName] == NONE || endedBy[name] <= endedBy[otherName];
        }

        /** Pairs of things that are in one group. */
        int pairs() {
            int sum = 0;
            for (int name = 0; name < items; name++) {
                if (lives(name)) {
                    sum += size[name] * (size[name] - 1) / 2;
                }
            }
            return sum;
        }
    }

    /**
     * The links as they came, and a tree in each land of those that joined lands as they came.
     * That tree is enough for all else: within a block it never leaves the block, within a part
     * never the part, so its ways tell which blocks and parts a new link makes one, and the
     * forest of blocks is the tree with each block drawn together.
     */
    private static final class Web {
        final int[] first;
        final int[] second;
        final int[] endedBy;
        final int[] up;
        final int[] upLink;
        final int[] wayNode;
        final int[] wayLink;
        final Names blocks;
        final Names lands;
        final Names parts;
        int nodes;
        int links;
        int turned;
        int joined;
        int firstWas;
        int secondWas;

        Web() {
            first = new int[MOST_LINKS];
            second = new int[MOST_LINKS];
            endedBy = new int[MOST_LINKS];
            up = new int[MOST_NODES];
            upLink = new int[MOST_NODES];
            wayNode = new int[MOST_NODES];
            wayLink = new int[MOST_NODES];
            blocks = new Names(MOST_NODES);
            lands = new Names(MOST_NODES);
            parts = new Names(MOST_LINKS);
            nodes = 0;
            links = 0;
        }

        void clear(int n) {
            nodes = n < MOST_NODES ? n : MOST_NODES;
            links = 0;
            blocks.clear();
            lands.clear();
            parts.clear();
            for (int node = 0; node < nodes; node++) {
                up[node] = NONE;
                upLink[node] = NONE;
                blocks.begin();
                lands.begin();
            }
        }

        /** All names, ends and turns go back to what they were with the first links alone. */
        void growAgain(int kept) {
            clear(nodes);
            for (int link = 0; link < kept; link++) {
                add(first[link], second[link]);
            }
        }

        int add(int u, int v) {
            if (links >= MOST_LINKS) {
                return NONE;
            }
            int link = links;
            links++;
            first[link] = u;
            second[link] = v;
            firstWas = blocks.of[u];
            secondWas = blocks.of[v];
            turned = 0;
            joined = 1;
            parts.begin();
            int steps = trace(u, v);
            if (steps == NONE) {
                endedBy[link] = NONE;
                joinLands(u, v, link);
                return CAME_AS_BRIDGE;
            }
            endedBy[link] = link;
            return closeRing(steps, link);
        }

        private void joinLands(int u, int v, int link) {
            int ofU = lands.of[u];
            int ofV = lands.of[v];
            long both = bit(ofU) | bit(ofV);
            if (lands.keeper(both) == ofU) {
                turn(v, u, link);
            } else {
                turn(u, v, link);
            }
            lands.join(both, link);
        }

        private void turn(int end, int otherEnd, int link) {
            int node = end;
            int above = otherEnd;
            int by = link;
            turned = 1;
            for (int step = 0; step < nodes && node != NONE; step++) {
                int next = up[node];
                int nextBy = upLink[node];
                up[node] = above;
                upLink[node] = by;
                if (nextBy != NONE && isBridge(nextBy)) {
                    turned++;
                }
                above = node;
                by = nextBy;
                node = next;
            }
        }

        private int closeRing(int steps, int link) {
            long blockNames = blocksOnWay(steps);
            long partNames = bit(link);
            int ended = 0;
            for (int step = 0; step < steps; step++) {
                int passed = wayLink[step];
                partNames |= bit(parts.of[passed]);
                if (isBridge(passed)) {
                    endedBy[passed] = link;
                    ended++;
                }
            }
            joined = ended + 1;
            blocks.join(blockNames, link);
            parts.join(partNames, link);
            return ended;
        }

        /** Lays the tree's way from u to v into the rows: how many links it has, or NONE. */
        int trace(int u, int v) {
            if (lands.of[u] != lands.of[v]) {
                return NONE;
            }
            int highU = high(u);
            int highV = high(v);
            int steps = apart(u, v, highU, highV);
            int a = u;
            int b = v;
            int front = 0;
            int back = steps;
            wayNode[front] = a;
            wayNode[back] = b;
            while (front < back && a != NONE && b != NONE) {
                if (highU >= highV) {
                    wayLink[front] = upLink[a];
                    a = up[a];
                    highU--;
                    front++;
                    wayNode[front] = a;
                } else {
                    back--;
                    wayLink[back] = upLink[b];
                    b = up[b];
                    highV--;
                    wayNode[back] = b;
                }
            }
            return steps;
        }

        private int high(int node) {
            int x = up[node];
            int steps = 0;
            while (steps < nodes && x != NONE) {
                x = up[x];
                steps++;
            }
            return steps;
        }

        private int apart(int u, int v, int highU, int highV) {
            int a = u;
            int b = v;
            int left = highU;
            int right = highV;
            int steps = 0;
            // A way has fewer links than nodes, so its rows hold its last node too.
            while (steps < nodes - 1 && a != b && a != NONE && b != NONE) {
                if (left >= right) {
                    a = up[a];
                    left--;
                } else {
                    b = up[b];
                    right--;
                }
                steps++;
            }
            return steps;
        }

        boolean isBridge(int link) {
            return endedBy[link] == NONE;
        }

        boolean isAt(int link, int node) {
            return first[link] == node || second[link] == node;
        }

        int linksAt(int node) {
            int count = 0;
            for (int link = 0; link < links; link++) {
                if (isAt(link, node)) {
                    count++;
                }
            }
            return count;
        }

        int bridgesAt(int node) {
            int count = 0;
            for (int link = 0; link < links; link++) {
                if (isAt(link, node) && isBridge(link)) {
                    count++;
                }
            }
            return count;
        }

        int linksWithin(int block) {
            int count = 0;
            for (int link = 0; link < links; link++) {
                if (!isBridge(link) && blocks.of[first[link]] == block) {
                    count++;
                }
            }
            return count;
        }

        int linksOf(int land) {
            int count = 0;
            for (int link = 0; link < links; link++) {
                if (lands.of[first[link]] == land) {
                    count++;
                }
            }
            return count;
        }

        int bridgesOf(int land) {
            int count = 0;
            for (int link = 0; link < links; link++) {
                if (isBridge(link) && lands.of[first[link]] == land) {
                    count++;
                }
            }
            return count;
        }

        int bridgesAmong(int k) {
            int count = 0;
            for (int link = 0; link < k && link < links; link++) {
                if (isBridge(link) || endedBy[link] >= k) {
                    count++;
                }
            }
            return count;
        }

        long blocksOnWay(int steps) {
            long names = 0L;
            for (int step = 0; step <= steps; step++) {
                names |= bit(blocks.of[wayNode[step]]);
            }
            return names;
        }

        int bridgesOnWay(int steps) {
            int count = 0;
            for (int step = 0; step < steps; step++) {
                if (isBridge(wayLink[step])) {
                    count++;
                }
            }
            return count;
        }

        boolean leavesPart(int step) {
            return step > 0 && parts.of[wayLink[step - 1]] != parts.of[wayLink[step]];
        }

        int landSince(int steps) {
            int last = NONE;
            for (int step = 0; step < steps; step++) {
                last = Math.max(last, wayLink[step]);
            }
            return last + 1;
        }

        int blockSince(int steps) {
            int last = NONE;
            for (int step = 0; step < steps; step++) {
                if (isBridge(wayLink[step])) {
                    return NONE;
                }
                last = Math.max(last, endedBy[wayLink[step]]);
            }
            return last + 1;
        }

        int ringSince(int steps) {
            // A single link is a part too, but on a ring only once it is no bridge.
            if (steps == 1) {
                return blockSince(steps);
            }
            int last = NONE;
            for (int step = 1; step < steps; step++) {
                int met = parts.meeting(wayLink[step - 1], wayLink[step]);
                if (met == NONE) {
                    return NONE;
                }
                last = Math.max(last, met);
            }
            return last + 1;
        }
    }

    /** The forest of blocks, read off a web: rows by the blocks' names. */
    private static final class Forest {
        final int[] parent;
        final int[] upLink;
        final int[] deep;
        final int[] children;
        final int[] bridgesAt;
        final int[] below;
        final int[] away;
        private final int[] order;
        private final int[] lastChild;
        private final int[] childBefore;
        private final int[] waiting;
        private int count;
        private int names;

        Forest() {
            parent = new int[MOST_NODES];
            upLink = new int[MOST_NODES];
            deep = new int[MOST_NODES];
            children = new int[MOST_NODES];
            bridgesAt = new int[MOST_NODES];
            below = new int[MOST_NODES];
            away = new int[MOST_NODES];
            order = new int[MOST_NODES];
            lastChild = new int[MOST_NODES];
            childBefore = new int[MOST_NODES];
            waiting = new int[MOST_NODES];
            count = 0;
            names = 0;
        }

        void read(Web web) {
            names = web.nodes;
            for (int name = 0; name < names; name++) {
                parent[name] = NONE;
                upLink[name] = NONE;
                children[name] = 0;
                bridgesAt[name] = 0;
                below[name] = 0;
                lastChild[name] = NONE;
                childBefore[name] = NONE;
            }
            readNodes(web);
            hangChildren();
            putInOrder(web.blocks);
            sumUp();
        }

        private void readNodes(Web web) {
            for (int node = 0; node < names; node++) {
                int name = web.blocks.of[node];
                below[name]++;
                int by = web.upLink[node];
                if (by != NONE && web.isBridge(by)) {
                    parent[name] = web.blocks.of[web.up[node]];
                    upLink[name] = by;
                }
            }
        }

        private void hangChildren() {
            for (int name = 0; name < names; name++) {
                int above = parent[name];
                if (above != NONE) {
                    childBefore[name] = lastChild[above];
                    lastChild[above] = name;
                    children[above]++;
                    bridgesAt[above]++;
                    bridgesAt[name]++;
                }
            }
        }

        /** Each block ahead of its children, these rising, each with all below it. */
        private void putInOrder(Names blocks) {
            count = 0;
            int held = 0;
            for (int name = names - 1; name >= 0; name--) {
                if (blocks.lives(name) && parent[name] == NONE) {
                    waiting[held] = name;
                    held++;
                }
            }
            for (int step = 0; step < names && held > 0; step++) {
                held--;
                int name = waiting[held];
                deep[name] = parent[name] == NONE ? 0 : deep[parent[name]] + 1;
                order[count] = name;
                count++;
                int child = lastChild[name];
                for (int hung = 0; hung < names && child != NONE; hung++) {
                    waiting[held] = child;
                    held++;
                    child = childBefore[child];
                }
            }
        }

        private void sumUp() {
            for (int place = count - 1; place >= 0; place--) {
                int name = order[place];
                if (parent[name] != NONE) {
                    below[parent[name]] += below[name];
                }
            }
        }

        /** Lays into the row how many bridges each block is away from one (NONE: no way). */
        void measure(int from) {
            Arrays.fill(away, NONE);
            int name = from;
            for (int step = 0; step < names && name != NONE; step++) {
                away[name] = step;
                name = parent[name];
            }
            for (int place = 0; place < count; place++) {
                int next = order[place];
                int above = parent[next];
                if (away[next] == NONE && above != NONE && away[above] != NONE) {
                    away[next] = away[above] + 1;
                }
            }
        }

        private int farthest(int from) {
            measure(from);
            int most = 0;
            for (int name = 0; name < names; name++) {
                most = Math.max(most, away[name]);
            }
            return most;
        }

        int longest(Names lands, int land) {
            int most = 0;
            for (int place = 0; place < count; place++) {
                if (lands.of[order[place]] == land) {
                    most = Math.max(most, farthest(order[place]));
                }
            }
            return most;
        }

        int longestLesser(Names lands, int land) {
            int most = longest(lands, land);
            for (int name = 0; name < names; name++) {
                if (isBlockOf(lands, land, name) && farthest(name) == most) {
                    return name;
                }
            }
            return NONE;
        }

        int longestOther(Names lands, int land) {
            int most = longest(lands, land);
            int lesser = longestLesser(lands, land);
            if (lesser == NONE) {
                return NONE;
            }
            measure(lesser);
            for (int name = 0; name < names; name++) {
                if (away[name] == most) {
                    return name;
                }
            }
            return NONE;
        }

        int middle(Names lands, int land) {
            int best = NONE;
            int least = MOST_NODES;
            for (int name = 0; name < names; name++) {
                if (isBlockOf(lands, land, name)) {
                    int far = farthest(name);
                    if (far < least) {
                        least = far;
                        best = name;
                    }
                }
            }
            return best;
        }

        private boolean isBlockOf(Names lands, int land, int name) {
            // Each block holds the node that it is named by, so no nodes below: no such block.
            return below[name] > 0 && lands.of[name] == land;
        }

        int blocksOf(Names lands, int land) {
            int sum = 0;
            for (int place = 0; place < count; place++) {
                if (lands.of[order[place]] == land) {
                    sum++;
                }
            }
            return sum;
        }

        int rootOf(Names lands, int land) {
            for (int place = 0; place < count; place++) {
                if (lands.of[order[place]] == land) {
                    return order[place];
                }
            }
            return NONE;
        }

        int leavesOf(Names lands, int land) {
            int sum = 0;
            for (int place = 0; place < count; place++) {
                if (lands.of[order[place]] == land && bridgesAt[order[place]] == 1) {
                    sum++;
                }
            }
            return sum;
        }

        int leaf(Names lands, int land, int k) {
            int seen = 0;
            for (int place = 0; place < count; place++) {
                if (lands.of[order[place]] == land && bridgesAt[order[place]] == 1) {
                    if (seen == k) {
                        return order[place];
                    }
                    seen++;
                }
            }
            return NONE;
        }

        int deepest() {
            int most = 0;
            for (int place = 0; place < count; place++) {
                most = Math.max(most, deep[order[place]]);
            }
            return most;
        }
    }

    /** The parts of a web's links, by number, and which of them are at which node. */
    private static final class PartBook {
        final long[] at;
        final int[] nameOf;
        final int[] numberOf;
        final int[] least;
        long onRings;
        int count;
        private int nodes;

        PartBook() {
            at = new long[MOST_NODES];
            nameOf = new int[MOST_LINKS];
            numberOf = new int[MOST_LINKS];
            least = new int[MOST_LINKS];
            onRings = 0L;
            count = 0;
            nodes = 0;
        }

        void read(Web web) {
            nodes = web.nodes;
            count = 0;
            onRings = 0L;
            Arrays.fill(at, 0L);
            Arrays.fill(numberOf, NONE);
            for (int link = 0; link < web.links; link++) {
                int name = web.parts.of[link];
                if (numberOf[name] == NONE) {
                    numberOf[name] = count;
                    nameOf[count] = name;
                    least[count] = link;
                    count++;
                }
                at[web.first[link]] |= bit(name);
                at[web.second[link]] |= bit(name);
                if (!web.isBridge(link)) {
                    onRings |= bit(name);
                }
            }
        }

        boolean isCut(int node) {
            return Long.bitCount(at[node]) > 1;
        }

        boolean shareRing(int u, int v) {
            return (at[u] & at[v] & onRings) != 0L;
        }

        int allCuts() {
            int sum = 0;
            for (int node = 0; node < nodes; node++) {
                if (isCut(node)) {
                    sum++;
                }
            }
            return sum;
        }

        int cutsOf(Names lands, int land) {
            int sum = 0;
            for (int node = 0; node < nodes; node++) {
                if (lands.of[node] == land && isCut(node)) {
                    sum++;
                }
            }
            return sum;
        }

        int cutsWithin(Names blocks, int block) {
            int sum = 0;
            for (int node = 0; node < nodes; node++) {
                if (blocks.of[node] == block && Long.bitCount(at[node] & onRings) > 1) {
                    sum++;
                }
            }
            return sum;
        }

        /** The names of all parts at the nodes of one group. */
        long allAt(Names groups, int group) {
            long all = 0L;
            for (int node = 0; node < nodes; node++) {
                if (groups.of[node] == group) {
                    all |= at[node];
                }
            }
            return all;
        }

        int nodesAt(int name) {
            int sum = 0;
            for (int node = 0; node < nodes; node++) {
                if (holds(at[node], name)) {
                    sum++;
                }
            }
            return sum;
        }

        int ringPairs() {
            int sum = 0;
            for (int u = 0; u < nodes; u++) {
                for (int v = u + 1; v < nodes; v++) {
                    if (shareRing(u, v)) {
                        sum++;
                    }
                }
            }
            return sum;
        }
    }

    /** The shortest way round along a link, measured from its first node without the link. */
    private static final class Round {
        private final int[] away;

        Round() {
            away = new int[MOST_NODES];
        }

        /** How many nodes the ring has; NONE if there is none. */
        int measure(Web web, int along) {
            Arrays.fill(away, NONE);
            int end = web.second[along];
            away[web.first[along]] = 0;
            for (int far = 0; far < web.nodes && away[end] == NONE; far++) {
                for (int link = 0; link < web.links; link++) {
                    if (link != along) {
                        spread(web.first[link], web.second[link], far);
                        spread(web.second[link], web.first[link], far);
                    }
                }
            }
            return away[end] == NONE ? NONE : away[end] + 1;
        }

        private void spread(int from, int to, int far) {
            if (away[from] == far && away[to] == NONE) {
                away[to] = far + 1;
            }
        }

        int nodeAt(Web web, int along, int i) {
            int node = web.second[along];
            for (int step = 0; step < i && step < web.nodes; step++) {
                node = leastNearer(web, along, node);
            }
            return node;
        }

        private int leastNearer(Web web, int along, int node) {
            int least = MOST_NODES;
            for (int link = 0; link < web.links; link++) {
                if (link != along && web.isAt(link, node)) {
                    int other = web.first[link] == node ? web.second[link] : web.first[link];
                    if (away[other] == away[node] - 1) {
                        least = Math.min(least, other);
                    }
                }
            }
            return least < MOST_NODES ? least : node;
        }
    }
}
