import java.util.Arrays;

/** Objects to ask, each made anew, and all that can be asked of one. */
final class Webs {
    /** How an object is made: it has to be the same each time. */
    interface Maker {
        SafeBlocks make();
    }

    // The document speaks of 512 calls of an object: some are needed to make it.
    private static final int MOST_QUESTIONS = 400;

    private Webs() {
    }

    /** Links between the nodes of one row after the other, two by two. */
    static SafeBlocks grown(int n, int... ends) {
        SafeBlocks x = new SafeBlocks();
        x.nodes(n);
        link(x, ends);
        return x;
    }

    static void link(SafeBlocks x, int... ends) {
        for (int i = 0; i + 1 < ends.length; i += 2) {
            x.link(ends[i], ends[i + 1]);
        }
    }

    /**
     * Block 4 of nodes 2 .. 6 (triangles 4 5 6, links 0 to 2, and 4 3 2, links 8 to 10, that share
     * node 4), block 0 of nodes 0 and 1 (links 3 and 4), blocks 7 and 8; bridges 5 (1-4), 6 (6-7),
     * 7 (7-8); node 9 alone.
     */
    static SafeBlocks example() {
        return grown(10, 4, 5, 5, 6, 6, 4, 0, 1, 1, 0, 1, 4, 6, 7, 7, 8, 4, 3, 3, 2, 2, 4);
    }

    /** A way through nodes 0 to n less 1, linked from the least on. */
    static SafeBlocks path(int n) {
        SafeBlocks x = new SafeBlocks();
        x.nodes(n);
        for (int v = 0; v + 1 < n; v++) {
            x.link(v, v + 1);
        }
        return x;
    }

    /** The same, closed by a last link from the greatest node to the least. */
    static SafeBlocks round(int n) {
        SafeBlocks x = path(n);
        x.link(n - 1, 0);
        return x;
    }

    /** All others linked to node 0, from the least on. */
    static SafeBlocks star(int n) {
        SafeBlocks x = new SafeBlocks();
        x.nodes(n);
        for (int v = 1; v < n; v++) {
            x.link(0, v);
        }
        return x;
    }

    /** So many links between nodes 0 and 1, to and fro. */
    static SafeBlocks bundle(int n, int links) {
        SafeBlocks x = new SafeBlocks();
        x.nodes(n);
        for (int l = 0; l < links; l++) {
            x.link(l % 2, 1 - l % 2);
        }
        return x;
    }

    /** What an object made so answers to all questions, from just outside of each bound on. */
    static int[] allAnswers(Maker maker) {
        Asking all = new Asking(maker);
        all.ofTheWhole();
        all.ofEach();
        all.ofPairs();
        return Arrays.copyOf(all.answers, all.count);
    }

    private static final class Asking {
        private final Maker maker;
        private final int n;
        private final int m;
        private int[] answers = new int[1024];
        private int count = 0;
        private SafeBlocks object;
        private int left = 0;

        Asking(Maker maker) {
            this.maker = maker;
            n = fresh().look(0);
            m = fresh().look(1);
        }

        private SafeBlocks fresh() {
            if (left == 0) {
                object = maker.make();
                left = MOST_QUESTIONS;
            }
            left--;
            return object;
        }

        private void add(int answer) {
            if (count == answers.length) {
                answers = Arrays.copyOf(answers, 2 * count);
            }
            answers[count] = answer;
            count++;
        }

        void ofTheWhole() {
            for (int i = -2; i <= Math.max(m, 12) + 1; i++) {
                add(fresh().look(i));
                add(fresh().best(i));
                add(fresh().worst(i));
                add(fresh().latest(i));
                add(fresh().bridge(i));
                add(fresh().bridgesBy(i));
            }
        }

        void ofEach() {
            for (int a = -1; a <= Math.max(n, m); a++) {
                add(fresh().centre(a));
                for (int b = -2; b <= Math.max(n, 11); b++) {
                    ofTwo(a, b);
                    for (int c = -1; c < 6; c++) {
                        add(fresh().story(b, a, c));
                        add(fresh().mending(a, b, c));
                        add(fresh().without(b, a, c));
                    }
                }
            }
        }

        private void ofTwo(int a, int b) {
            add(fresh().linkOf(a, b));
            add(fresh().node(a, b));
            add(fresh().block(a, b));
            add(fresh().member(a, b));
            add(fresh().child(a, b));
            add(fresh().land(a, b));
            add(fresh().part(a, b));
            add(fresh().ring(a, b));
        }

        void ofPairs() {
            for (int u = -1; u <= n; u++) {
                for (int v = -1; v <= n; v++) {
                    add(fresh().doubleSafe(u, v));
                    for (int c = -2; c < 5; c++) {
                        add(fresh().way(u, v, c));
                        add(fresh().since(u, v, c));
                        add(fresh().would(u, v, c));
                        add(fresh().between(u, v, c));
                        add(fresh().wouldName(u, v, c));
                    }
                }
            }
        }
    }
}
