import java.util.Arrays;

/**
 * The one way in which a graph comes apart at pairs of its points: a tree of bonds, rings and
 * rigid pieces.
 */
public final class SkeletonTree {
    public static final int NONE = -1;
    public static final int BOND = 0, RING = 1, RIGID = 2;

    private static final int POINTS = 40;
    private static final int MOST_EDGES = 100;
    private static final int LEAST_FIT_EDGES = 3;
    private static final int LEAST_PAIRED_BOND = 4;

    // p pieces have at least 3p edges and sides of joints, and at most 100 + 2(p - 1) of them.
    private static final int MOST_PIECES = MOST_EDGES - 2;
    private static final int MOST_SLOTS = MOST_EDGES + 2 * (MOST_PIECES - 1);

    private final int[] firstEnd = new int[MOST_EDGES];
    private final int[] secondEnd = new int[MOST_EDGES];
    private final boolean[] there = new boolean[MOST_EDGES];
    private final Links graph = new Links();
    private final Pieces pieces = new Pieces();
    private final Order order = new Order();
    private final Nodes nodes = new Nodes();
    private int made = 0;
    private int alive = 0;
    private boolean built = false;

    public SkeletonTree() {
    }

    public int edge(int a, int b) throws IllegalArgumentException, IndexOutOfBoundsException {
        if (!isPoint(a) || !isPoint(b) || a == b) {
            throw new IllegalArgumentException("an edge needs two different points 0 .. 39");
        }
        if (made >= MOST_EDGES) {
            throw new IndexOutOfBoundsException("100 edges were made");
        }
        int number = made;
        firstEnd[number] = a;
        secondEnd[number] = b;
        there[number] = true;
        made++;
        alive++;
        built = false;
        return number;
    }

    public void drop(int e) throws IndexOutOfBoundsException {
        if (!isThere(e)) {
            throw new IndexOutOfBoundsException("there is no such edge");
        }
        there[e] = false;
        alive--;
        built = false;
    }

    public int edges() {
        return alive;
    }

    public int build() {
        // While a tree stands the graph is the one that it was made of.
        if (built) {
            return nodes.count;
        }
        linkEdges();
        if (alive < LEAST_FIT_EDGES || !graph.holdTogether()) {
            return NONE;
        }
        fillFirstPiece();
        pieces.comeApartWholly();
        pieces.uniteRings();
        order.follow(pieces);
        nodes.take(pieces, order);
        built = true;
        return nodes.count;
    }

    public int kind(int node) throws IllegalStateException, IndexOutOfBoundsException {
        checkNode(node);
        return nodes.kindOf[node];
    }

    public int size(int node) throws IllegalStateException, IndexOutOfBoundsException {
        checkNode(node);
        return nodes.sizeOf[node];
    }

    public int points(int node) throws IllegalStateException, IndexOutOfBoundsException {
        checkNode(node);
        return Long.bitCount(nodes.inside[node]);
    }

    public int item(int node, int i) throws IllegalStateException, IndexOutOfBoundsException {
        checkNode(node);
        if (i < 0 || i >= nodes.sizeOf[node]) {
            throw new IndexOutOfBoundsException("there is no such item");
        }
        return nodes.findItem(node, i);
    }

    public int up(int node) throws IllegalStateException, IndexOutOfBoundsException {
        checkNode(node);
        return nodes.above[node];
    }

    public int joint(int node, boolean second) throws IllegalStateException, IndexOutOfBoundsException {
        checkNode(node);
        return second ? nodes.greater[node] : nodes.lesser[node];
    }

    public int nodeOf(int e) throws IllegalStateException {
        checkTree();
        return isThere(e) ? nodes.ofEdge[e] : NONE;
    }

    public boolean has(int node, int point) throws IllegalStateException, IndexOutOfBoundsException {
        checkNode(node);
        checkPoint(point);
        return holds(nodes.inside[node], point);
    }

    public boolean isPair(int u, int v) throws IllegalStateException, IndexOutOfBoundsException {
        checkTree();
        checkPoint(u);
        checkPoint(v);
        if (u == v) {
            return false;
        }
        // A graph of these two points alone has nothing but edges from the one to the other.
        if (graph.present == (only(u) | only(v))) {
            return alive >= LEAST_PAIRED_BOND;
        }
        return graph.comeApartAt(u, v);
    }

    public boolean comeApart(int u, int v) throws IllegalStateException, IndexOutOfBoundsException {
        checkTree();
        checkPoint(u);
        checkPoint(v);
        if (u == v || !holds(graph.present, u) || !holds(graph.present, v) || holds(graph.near[u], v)) {
            return false;
        }
        return !nodes.tieThreefold(u, v);
    }

    private void checkTree() {
        if (!built) {
            throw new IllegalStateException("there is no tree");
        }
    }

    private void checkNode(int node) {
        checkTree();
        if (node < 0 || node >= nodes.count) {
            throw new IndexOutOfBoundsException("there is no such node");
        }
    }

    private void checkPoint(int point) {
        if (!isPoint(point)) {
            throw new IndexOutOfBoundsException("there is no such point");
        }
    }

    private boolean isThere(int e) {
        return e >= 0 && e < made && there[e];
    }

    private void linkEdges() {
        graph.clear();
        for (int e = 0; e < made; e++) {
            if (there[e]) {
                graph.link(firstEnd[e], secondEnd[e]);
            }
        }
    }

    private void fillFirstPiece() {
        pieces.clear();
        for (int e = 0; e < made; e++) {
            if (there[e]) {
                pieces.place(e, firstEnd[e], secondEnd[e], 0);
            }
        }
    }

    private static boolean isPoint(int point) {
        return point >= 0 && point < POINTS;
    }

    // A set of points is a long with a bit for each.
    private static long only(int point) {
        return 1L << point;
    }

    private static boolean holds(long set, int point) {
        return (set & only(point)) != 0;
    }

    /** Which points the edges of a graph, or of one piece, join. */
    private static final class Links {
        final long[] near = new long[POINTS];
        final long[] nearTwice = new long[POINTS];
        long present = 0;

        void clear() {
            Arrays.fill(near, 0L);
            Arrays.fill(nearTwice, 0L);
            present = 0;
        }

        void link(int a, int b) {
            nearTwice[a] |= near[a] & only(b);
            nearTwice[b] |= near[b] & only(a);
            near[a] |= only(b);
            near[b] |= only(a);
            present |= only(a) | only(b);
        }

        /** The points of a set that its least point is joined with by ways inside the set. */
        long reach(long set) {
            long seen = set & -set;
            long waiting = seen;
            // A point waits once at most.
            for (int step = 0; step < POINTS && waiting != 0 && seen != set; step++) {
                long next = waiting & -waiting;
                // As many bits lie below the only bit of next as its point's number says.
                long fresh = near[Long.bitCount(next - 1)] & set & ~seen;
                seen |= fresh;
                waiting = (waiting & ~next) | fresh;
            }
            return seen;
        }

        /** Whether all points are joined, also without any one of them. */
        boolean holdTogether() {
            if (reach(present) != present) {
                return false;
            }
            for (int point = 0; point < POINTS; point++) {
                long others = present & ~only(point);
                if (reach(others) != others) {
                    return false;
                }
            }
            return true;
        }

        /**
         * Whether two points are a pair of a graph that is fit and has others too. Edges that
         * belong together there are those at points joined without the two, never fewer than
         * two edges, or a single edge between the two.
         */
        boolean comeApartAt(int u, int v) {
            long others = present & ~only(u) & ~only(v);
            return others != 0 && (holds(nearTwice[u], v) || reach(others) != others);
        }
    }

    /**
     * What a graph comes apart into. Slot e is the edge e; behind the edges each joint has two
     * neighbouring slots, its sides, one in each of its two pieces.
     */
    private static final class Pieces {
        final int[] firstEnd = new int[MOST_SLOTS];
        final int[] secondEnd = new int[MOST_SLOTS];
        final int[] home = new int[MOST_SLOTS];
        final int[] kindOf = new int[MOST_PIECES];
        private final int[] startAt = new int[MOST_PIECES];
        private final Links links = new Links();
        int slots = MOST_EDGES;
        int count = 0;

        void clear() {
            Arrays.fill(home, NONE);
            slots = MOST_EDGES;
            count = 1;
        }

        void place(int slot, int a, int b, int piece) {
            firstEnd[slot] = a;
            secondEnd[slot] = b;
            home[slot] = piece;
        }

        static int otherSide(int slot) {
            return slot ^ 1;
        }

        void comeApartWholly() {
            for (int piece = 0; piece < MOST_PIECES && piece < count; piece++) {
                comeApartFrom(piece);
                kindOf[piece] = kindByPoints();
            }
        }

        // Two points that are no pair of a piece are no pair of what comes of it, so that one
        // walk over all pairs is enough, and a new piece goes on where it was split off.
        private void comeApartFrom(int piece) {
            linkPiece(piece);
            for (int u = startAt[piece]; u < POINTS; u++) {
                for (int v = u + 1; v < POINTS && holds(links.present, u); v++) {
                    if (holds(links.present, v)) {
                        splitAt(piece, u, v);
                    }
                }
            }
        }

        private void splitAt(int piece, int u, int v) {
            for (int part = 0; part < POINTS && count < MOST_PIECES && links.comeApartAt(u, v); part++) {
                splitOff(piece, u, v);
                linkPiece(piece);
            }
        }

        private void splitOff(int piece, int u, int v) {
            long part = links.reach(links.present & ~only(u) & ~only(v));
            int fresh = count;
            count++;
            startAt[fresh] = u;
            for (int slot = 0; slot < slots; slot++) {
                if (home[slot] == piece && (holds(part, firstEnd[slot]) || holds(part, secondEnd[slot]))) {
                    home[slot] = fresh;
                }
            }
            place(slots, u, v, piece);
            place(slots + 1, u, v, fresh);
            slots += 2;
        }

        private void linkPiece(int piece) {
            links.clear();
            for (int slot = 0; slot < slots; slot++) {
                if (home[slot] == piece) {
                    links.link(firstEnd[slot], secondEnd[slot]);
                }
            }
        }

        // Of a piece without a pair; a bond is left whole, whatever its size.
        private int kindByPoints() {
            int points = Long.bitCount(links.present);
            return points == 2 ? BOND : points == 3 ? RING : RIGID;
        }

        // Two bonds never have a joint in common here: what is split off at two points leaves one.
        void uniteRings() {
            for (int side = MOST_EDGES; side < slots; side += 2) {
                int one = home[side];
                int other = home[side + 1];
                if (kindOf[one] == RING && kindOf[other] == RING) {
                    home[side] = NONE;
                    home[side + 1] = NONE;
                    moveAll(other, one);
                }
            }
        }

        private void moveAll(int from, int to) {
            for (int slot = 0; slot < slots; slot++) {
                if (home[slot] == from) {
                    home[slot] = to;
                }
            }
        }
    }

    /** Which number each piece gets as a node. */
    private static final class Order {
        final int[] row = new int[MOST_PIECES];
        final int[] above = new int[MOST_PIECES];
        final int[] sideUp = new int[MOST_PIECES];
        final int[] number = new int[MOST_PIECES];
        private final int[] least = new int[MOST_PIECES];
        private final int[] weight = new int[MOST_PIECES];
        int count = 0;

        void follow(Pieces pieces) {
            findLeastEdges(pieces);
            layRow(pieces);
            sumUp();
            for (int i = 0; i < count; i++) {
                number[row[i]] = numberFor(row[i]);
            }
        }

        private void findLeastEdges(Pieces pieces) {
            Arrays.fill(least, MOST_EDGES);
            for (int e = MOST_EDGES - 1; e >= 0; e--) {
                int piece = pieces.home[e];
                if (piece != NONE) {
                    least[piece] = e;
                    row[0] = piece;
                }
            }
        }

        /** Lays the pieces in a row in which each stands behind the one above it. */
        private void layRow(Pieces pieces) {
            above[row[0]] = NONE;
            sideUp[row[0]] = NONE;
            count = 1;
            for (int i = 0; i < MOST_PIECES && i < count; i++) {
                for (int side = MOST_EDGES; side < pieces.slots; side++) {
                    if (pieces.home[side] == row[i] && side != sideUp[row[i]] && count < MOST_PIECES) {
                        int twin = Pieces.otherSide(side);
                        int below = pieces.home[twin];
                        above[below] = row[i];
                        sideUp[below] = twin;
                        row[count] = below;
                        count++;
                    }
                }
            }
        }

        /** Makes least and weight tell of a piece with all that hang below it. */
        private void sumUp() {
            Arrays.fill(weight, 1);
            for (int i = count - 1; i > 0; i--) {
                int piece = row[i];
                int parent = above[piece];
                least[parent] = Math.min(least[parent], least[piece]);
                weight[parent] += weight[piece];
            }
        }

        // Before a piece come the one above it and all below that with a lesser edge.
        private int numberFor(int piece) {
            int parent = above[piece];
            if (parent == NONE) {
                return 0;
            }
            int before = number[parent] + 1;
            for (int i = 1; i < count; i++) {
                int other = row[i];
                if (above[other] == parent && least[other] < least[piece]) {
                    before += weight[other];
                }
            }
            return before;
        }
    }

    /** The tree as it is asked for: rows by the nodes' numbers. */
    private static final class Nodes {
        final int[] kindOf = new int[MOST_PIECES];
        final int[] sizeOf = new int[MOST_PIECES];
        final int[] above = new int[MOST_PIECES];
        final int[] lesser = new int[MOST_PIECES];
        final int[] greater = new int[MOST_PIECES];
        final long[] inside = new long[MOST_PIECES];
        final int[] ofEdge = new int[MOST_EDGES];
        int count = 0;

        void take(Pieces pieces, Order order) {
            count = order.count;
            for (int i = 0; i < count; i++) {
                takeNode(pieces, order, order.row[i]);
            }
            for (int slot = 0; slot < pieces.slots; slot++) {
                int node = pieces.home[slot] == NONE ? NONE : order.number[pieces.home[slot]];
                if (node != NONE) {
                    sizeOf[node]++;
                    inside[node] |= only(pieces.firstEnd[slot]) | only(pieces.secondEnd[slot]);
                }
                if (slot < MOST_EDGES) {
                    ofEdge[slot] = node;
                }
            }
        }

        private void takeNode(Pieces pieces, Order order, int piece) {
            int node = order.number[piece];
            int parent = order.above[piece];
            int side = order.sideUp[piece];
            kindOf[node] = pieces.kindOf[piece];
            sizeOf[node] = 0;
            inside[node] = 0;
            above[node] = parent == NONE ? NONE : order.number[parent];
            lesser[node] = side == NONE ? NONE : Math.min(pieces.firstEnd[side], pieces.secondEnd[side]);
            greater[node] = side == NONE ? NONE : Math.max(pieces.firstEnd[side], pieces.secondEnd[side]);
        }

        int findItem(int node, int i) {
            int left = i;
            for (int e = 0; e < MOST_EDGES; e++) {
                if (ofEdge[e] == node) {
                    if (left == 0) {
                        return e;
                    }
                    left--;
                }
            }
            return nameNode(findNeighbour(node, left));
        }

        // The node up has a lesser number than the node itself, those below have greater ones.
        private int findNeighbour(int node, int i) {
            int left = i;
            for (int other = 0; other < count; other++) {
                if (other == above[node] || above[other] == node) {
                    if (left == 0) {
                        return other;
                    }
                    left--;
                }
            }
            return NONE;
        }

        private static int nameNode(int node) {
            return -2 - node;
        }

        /**
         * Whether two points that no edge joins have three ways with no other point in common:
         * a bond or a rigid node with both gives them; without one, a ring's points or a
         * joint's on the way part them.
         */
        boolean tieThreefold(int u, int v) {
            for (int node = 0; node < count; node++) {
                if (kindOf[node] != RING && holds(inside[node], u) && holds(inside[node], v)) {
                    return true;
                }
            }
            return false;
        }
    }
}
