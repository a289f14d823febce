import java.util.ArrayList;
import java.util.Collections;
import java.util.List;
import java.util.Random;
import java.util.Set;
import java.util.TreeSet;

/**
 * Many graphs, each changed and built several times on one object, compared with a slow program
 * that does what the document's terms say word by word, in an order that chance (with a fixed
 * seed) decides.
 */
public final class DocumentTest {
    private static final int MOST_CALLS = 512;
    private static int checks = 0;
    private static int wrong = 0;
    private static int trees = 0;
    private static int withAllPoints = 0;
    private static int withAllEdges = 0;

    public static void main(String[] args) {
        for (int seed = 0; seed < 500; seed++) {
            // Seeds that lie close together choose alike at first, so they are spread out.
            run(new Random(seed * 0x9E3779B97F4A7C15L), "seed " + seed);
        }
        System.out.println(trees + " trees, " + withAllPoints + " with 40 points, " + withAllEdges
                + " with 100 edges, " + checks + " checks, " + wrong + " wrong");
        if (wrong != 0 || trees < 1000 || withAllPoints < 50 || withAllEdges < 50) {
            System.exit(1);
        }
    }

    private static void run(Random chance, String name) {
        Subject subject = new Subject();
        List<int[]> ends = Maker.make(chance);
        for (int[] e : ends) {
            subject.edge(e[0], e[1]);
        }
        compare(subject, chance, name);
        int changes = chance.nextInt(5);
        for (int i = 0; i < changes; i++) {
            change(subject, chance);
            compare(subject, chance, name + ", change " + i);
        }
    }

    private static void change(Subject subject, Random chance) {
        List<Integer> points = subject.points();
        if (chance.nextBoolean() && subject.ends.size() < 100 && points.size() >= 2) {
            Collections.shuffle(points, chance);
            subject.edge(points.get(0), points.get(1));
        } else if (!subject.there().isEmpty()) {
            subject.drop(subject.there().get(chance.nextInt(subject.there().size())));
        }
    }

    private static void compare(Subject subject, Random chance, String name) {
        Slow slow = new Slow(subject.ends, subject.there(), chance);
        due(name, "build()", subject.build(), slow.fit ? slow.nodes.size() : -1);
        due(name, "edges()", subject.ask().edges(), subject.there().size());
        if (!slow.fit) {
            due(name, "kind(0) throws", throwsNoTree(subject), true);
            return;
        }
        trees++;
        withAllPoints += slow.points.size() == 40 ? 1 : 0;
        withAllEdges += subject.there().size() == 100 ? 1 : 0;
        for (int n = 0; n < slow.nodes.size(); n++) {
            compareNode(subject, slow, n, name);
        }
        for (int e = -1; e <= subject.ends.size(); e++) {
            due(name, "nodeOf(" + e + ")", subject.ask().nodeOf(e), slow.nodeOf(e));
        }
        for (int u = 0; u < 40; u++) {
            for (int v = 0; v < 40; v++) {
                // Points outside are many and all alike.
                if (slow.points.contains(u) && slow.points.contains(v) || chance.nextInt(20) == 0) {
                    due(name, "isPair(" + u + ", " + v + ")", subject.ask().isPair(u, v), slow.isPair(u, v));
                    due(name, "comeApart(" + u + ", " + v + ")", subject.ask().comeApart(u, v), slow.comeApart(u, v));
                }
            }
        }
    }

    private static boolean throwsNoTree(Subject subject) {
        try {
            subject.ask().kind(0);
            return false;
        } catch (IllegalStateException e) {
            return true;
        }
    }

    private static void compareNode(Subject subject, Slow slow, int n, String name) {
        Slow.Piece node = slow.nodes.get(n);
        due(name, "kind(" + n + ")", subject.ask().kind(n), node.kind);
        due(name, "size(" + n + ")", subject.ask().size(n), node.edges.size());
        due(name, "points(" + n + ")", subject.ask().points(n), node.points().size());
        due(name, "up(" + n + ")", subject.ask().up(n), slow.up.get(n));
        due(name, "joint(" + n + ", false)", subject.ask().joint(n, false), slow.jointUp(n, false));
        due(name, "joint(" + n + ", true)", subject.ask().joint(n, true), slow.jointUp(n, true));
        List<Integer> items = slow.items(n);
        for (int i = 0; i < items.size(); i++) {
            due(name, "item(" + n + ", " + i + ")", subject.ask().item(n, i), items.get(i));
        }
        for (int p = 0; p < 40; p++) {
            due(name, "has(" + n + ", " + p + ")", subject.ask().has(n, p), node.points().contains(p));
        }
    }

    private static void due(String name, String call, Object got, Object want) {
        checks++;
        if (!got.equals(want)) {
            wrong++;
            if (wrong < 50) {
                System.out.println(name + ": " + call + " answered " + got + ", due is " + want);
            }
        }
    }

    /** An object under test; before its 512th call a new one takes its place, with the same past. */
    private static final class Subject {
        final List<int[]> ends = new ArrayList<>();
        private final Set<Integer> dropped = new TreeSet<>();
        private SkeletonTree tree = new SkeletonTree();
        private int calls = 0;
        private boolean built = false;

        SkeletonTree ask() {
            if (calls == MOST_CALLS) {
                repeat();
            }
            calls++;
            return tree;
        }

        private void repeat() {
            tree = new SkeletonTree();
            calls = ends.size() + dropped.size() + 1;
            for (int[] e : ends) {
                tree.edge(e[0], e[1]);
            }
            for (int e : dropped) {
                tree.drop(e);
            }
            if (built) {
                tree.build();
            }
        }

        void edge(int a, int b) {
            due("making", "edge", ask().edge(a, b), ends.size());
            ends.add(new int[] {a, b});
            built = false;
        }

        void drop(int e) {
            ask().drop(e);
            dropped.add(e);
            built = false;
        }

        int build() {
            int nodes = ask().build();
            built = true;
            return nodes;
        }

        List<Integer> there() {
            List<Integer> there = new ArrayList<>();
            for (int e = 0; e < ends.size(); e++) {
                if (!dropped.contains(e)) {
                    there.add(e);
                }
            }
            return there;
        }

        List<Integer> points() {
            Set<Integer> points = new TreeSet<>();
            for (int e : there()) {
                points.add(ends.get(e)[0]);
                points.add(ends.get(e)[1]);
            }
            return new ArrayList<>(points);
        }
    }

    /** Makes graphs that mostly are fit and come apart in many ways. */
    private static final class Maker {
        static List<int[]> make(Random chance) {
            int mostPoints = chance.nextInt(4) == 0 ? 40 : 4 + chance.nextInt(10);
            int mostEdges = chance.nextInt(4) == 0 ? 100 : 4 + chance.nextInt(25);
            int style = chance.nextInt(4);
            List<int[]> ends = new ArrayList<>();
            ends.add(new int[] {0, 1});
            ends.add(new int[] {0, 1});
            ends.add(new int[] {0, 1});
            int points = 2;
            for (int step = 0; step < 300; step++) {
                points += grow(ends, points, mostPoints, mostEdges, style, chance);
            }
            rename(ends, chance);
            Collections.shuffle(ends, chance);
            return ends;
        }

        private static int grow(List<int[]> ends, int points, int mostPoints, int mostEdges, int style, Random chance) {
            int[] e = ends.get(chance.nextInt(ends.size()));
            int what = chance.nextInt(style == 0 ? 2 : style == 1 ? 3 : 4);
            int room = mostEdges - ends.size();
            if (what == 0 && points < mostPoints && room >= 1) {
                ends.add(new int[] {points, e[1]});
                e[1] = points;
                return 1;
            }
            if (what == 1 && room >= 1) {
                ends.add(e.clone());
            } else if (what == 2 && points + 2 <= mostPoints && room >= 5) {
                ends.add(new int[] {e[0], points});
                ends.add(new int[] {e[0], points + 1});
                ends.add(new int[] {e[1], points});
                ends.add(new int[] {e[1], points + 1});
                ends.add(new int[] {points, points + 1});
                if (chance.nextBoolean()) {
                    ends.remove(e);
                }
                return 2;
            } else if (what == 3 && room >= 1 && chance.nextInt(3) == 0) {
                int a = chance.nextInt(points);
                int b = chance.nextInt(points);
                if (a != b) {
                    ends.add(new int[] {a, b});
                }
            }
            return 0;
        }

        private static void rename(List<int[]> ends, Random chance) {
            List<Integer> names = new ArrayList<>();
            for (int p = 0; p < 40; p++) {
                names.add(p);
            }
            Collections.shuffle(names, chance);
            for (int[] e : ends) {
                int turn = chance.nextInt(2);
                int a = names.get(e[turn]);
                int b = names.get(e[1 - turn]);
                e[0] = a;
                e[1] = b;
            }
        }
    }

    /** The document's terms, word by word. */
    private static final class Slow {
        static final int FIRST_JOINT = 1000;
        final boolean fit;
        final Set<Integer> points = new TreeSet<>();
        final List<Piece> nodes = new ArrayList<>();
        final List<Integer> up = new ArrayList<>();
        private final Piece whole = new Piece();
        private final long[] near = new long[40];
        private final Random chance;
        private List<Piece> pieces = new ArrayList<>();
        private int joints = FIRST_JOINT;

        /** Edges {number, end, end}; the same joint has the same number in both its pieces. */
        static final class Piece {
            final List<int[]> edges = new ArrayList<>();
            int kind;

            Set<Integer> points() {
                Set<Integer> points = new TreeSet<>();
                for (int[] e : edges) {
                    points.add(e[1]);
                    points.add(e[2]);
                }
                return points;
            }

            int[] find(int number) {
                for (int[] e : edges) {
                    if (e[0] == number) {
                        return e;
                    }
                }
                return null;
            }
        }

        Slow(List<int[]> ends, List<Integer> there, Random chance) {
            this.chance = chance;
            for (int e : there) {
                int[] edge = {e, ends.get(e)[0], ends.get(e)[1]};
                whole.edges.add(edge);
                near[edge[1]] |= 1L << edge[2];
                near[edge[2]] |= 1L << edge[1];
            }
            points.addAll(whole.points());
            fit = isFit();
            if (fit) {
                comeApartWholly();
                nameKinds();
                unite();
                Piece first = null;
                for (Piece p : pieces) {
                    if (p.find(there.get(0)) != null) {
                        first = p;
                    }
                }
                number(first, -1);
            }
        }

        private boolean isFit() {
            if (whole.edges.size() < 3) {
                return false;
            }
            for (int u : points) {
                for (int v : points) {
                    if (!joined(u, v, -1, -1)) {
                        return false;
                    }
                    for (int away : points) {
                        if (away != u && away != v && !joined(u, v, away, -1)) {
                            return false;
                        }
                    }
                }
            }
            return true;
        }

        // Points as bits, as this is asked for any four points of the graph.
        private boolean joined(int u, int v, int away, int alsoAway) {
            long taken = (away < 0 ? 0 : 1L << away) | (alsoAway < 0 ? 0 : 1L << alsoAway);
            long seen = 1L << u;
            long before = 0;
            while (seen != before && (seen & 1L << v) == 0) {
                before = seen;
                for (int p = 0; p < 40; p++) {
                    if ((before & 1L << p) != 0) {
                        seen |= near[p] & ~taken;
                    }
                }
            }
            return (seen & 1L << v) != 0;
        }

        /** The sets of edges that belong together without u and v between them. */
        private static List<List<int[]>> sets(Piece piece, int u, int v) {
            List<List<int[]>> sets = new ArrayList<>();
            for (int[] e : piece.edges) {
                List<int[]> mine = new ArrayList<>();
                mine.add(e);
                List<List<int[]>> others = new ArrayList<>();
                for (List<int[]> set : sets) {
                    boolean touch = false;
                    for (int[] f : set) {
                        touch |= meet(e, f, u, v);
                    }
                    if (touch) {
                        mine.addAll(set);
                    } else {
                        others.add(set);
                    }
                }
                others.add(mine);
                sets = others;
            }
            return sets;
        }

        private static boolean meet(int[] e, int[] f, int u, int v) {
            for (int i = 1; i <= 2; i++) {
                for (int k = 1; k <= 2; k++) {
                    if (e[i] == f[k] && e[i] != u && e[i] != v) {
                        return true;
                    }
                }
            }
            return false;
        }

        /** Some way to put sets into two parts with two edges at least in each: the one part, or null. */
        private List<int[]> part(Piece piece, int u, int v) {
            List<List<int[]>> sets = sets(piece, u, v);
            Collections.shuffle(sets, chance);
            // Parts by chance first, so that the order in which pieces come apart varies.
            for (int i = 0; i < 3; i++) {
                List<int[]> some = new ArrayList<>();
                for (List<int[]> set : sets) {
                    if (chance.nextBoolean()) {
                        some.addAll(set);
                    }
                }
                if (some.size() >= 2 && piece.edges.size() - some.size() >= 2) {
                    return some;
                }
            }
            return partBySize(piece, sets, new ArrayList<>(), 0);
        }

        // The first four sets are enough to try: with more of them any two are a part.
        private static List<int[]> partBySize(Piece piece, List<List<int[]>> sets, List<int[]> taken, int next) {
            if (taken.size() >= 2 && piece.edges.size() - taken.size() >= 2) {
                return taken;
            }
            if (next == sets.size() || next == 4) {
                return null;
            }
            List<int[]> more = new ArrayList<>(taken);
            more.addAll(sets.get(next));
            List<int[]> found = partBySize(piece, sets, more, next + 1);
            return found != null ? found : partBySize(piece, sets, taken, next + 1);
        }

        boolean isPair(int u, int v) {
            return u != v && part(whole, u, v) != null;
        }

        boolean comeApart(int u, int v) {
            if (u == v || !points.contains(u) || !points.contains(v)) {
                return false;
            }
            for (int[] e : whole.edges) {
                if (e[1] == u && e[2] == v || e[1] == v && e[2] == u) {
                    return false;
                }
            }
            for (int a : points) {
                for (int b : points) {
                    if (a != u && a != v && b != u && b != v && a <= b && !joined(u, v, a, b)) {
                        return true;
                    }
                }
            }
            return false;
        }

        private void comeApartWholly() {
            List<Piece> open = new ArrayList<>();
            open.add(whole);
            while (!open.isEmpty()) {
                Piece piece = open.remove(chance.nextInt(open.size()));
                if (!splitSomewhere(piece, open)) {
                    pieces.add(piece);
                }
            }
        }

        private boolean splitSomewhere(Piece piece, List<Piece> open) {
            List<Integer> all = new ArrayList<>(piece.points());
            Collections.shuffle(all, chance);
            for (int i = 0; i < all.size(); i++) {
                for (int k = 0; k < i; k++) {
                    List<int[]> part = part(piece, all.get(i), all.get(k));
                    if (part != null) {
                        split(piece, part, new int[] {joints++, all.get(i), all.get(k)}, open);
                        return true;
                    }
                }
            }
            return false;
        }

        private static void split(Piece piece, List<int[]> part, int[] joint, List<Piece> open) {
            Piece one = new Piece();
            Piece other = new Piece();
            for (int[] e : piece.edges) {
                (part.contains(e) ? one : other).edges.add(e);
            }
            one.edges.add(joint);
            other.edges.add(joint);
            open.add(one);
            open.add(other);
        }

        private void nameKinds() {
            for (Piece p : pieces) {
                int size = p.points().size();
                p.kind = size == 2 ? SkeletonTree.BOND : size == 3 ? SkeletonTree.RING : SkeletonTree.RIGID;
                if (size <= 3 && p.edges.size() != 3) {
                    throw new AssertionError("a piece that is of no kind");
                }
            }
        }

        private void unite() {
            for (int joint = FIRST_JOINT; joint < joints; joint++) {
                List<Piece> at = new ArrayList<>();
                for (Piece p : pieces) {
                    if (p.find(joint) != null) {
                        at.add(p);
                    }
                }
                Piece one = at.get(0);
                Piece other = at.get(1);
                if (one.kind == other.kind && one.kind != SkeletonTree.RIGID) {
                    one.edges.remove(one.find(joint));
                    other.edges.remove(other.find(joint));
                    one.edges.addAll(other.edges);
                    pieces.remove(other);
                }
            }
        }

        private void number(Piece piece, int from) {
            int mine = nodes.size();
            nodes.add(piece);
            up.add(from);
            while (true) {
                Piece next = null;
                int least = Integer.MAX_VALUE;
                for (int[] e : piece.edges) {
                    Piece beyond = e[0] < FIRST_JOINT ? null : across(piece, e[0]);
                    if (beyond != null && !nodes.contains(beyond) && leastBeyond(beyond, piece) < least) {
                        next = beyond;
                        least = leastBeyond(beyond, piece);
                    }
                }
                if (next == null) {
                    return;
                }
                number(next, mine);
            }
        }

        private Piece across(Piece piece, int joint) {
            for (Piece p : pieces) {
                if (p != piece && p.find(joint) != null) {
                    return p;
                }
            }
            throw new AssertionError("a joint in one piece alone");
        }

        private int leastBeyond(Piece piece, Piece from) {
            int least = Integer.MAX_VALUE;
            for (int[] e : piece.edges) {
                if (e[0] < FIRST_JOINT) {
                    least = Math.min(least, e[0]);
                } else if (across(piece, e[0]) != from) {
                    least = Math.min(least, leastBeyond(across(piece, e[0]), piece));
                }
            }
            return least;
        }

        int nodeOf(int e) {
            for (int n = 0; n < nodes.size(); n++) {
                if (nodes.get(n).find(e) != null) {
                    return n;
                }
            }
            return -1;
        }

        List<Integer> items(int n) {
            List<Integer> edges = new ArrayList<>();
            List<Integer> others = new ArrayList<>();
            for (int[] e : nodes.get(n).edges) {
                if (e[0] < FIRST_JOINT) {
                    edges.add(e[0]);
                } else {
                    others.add(nodes.indexOf(across(nodes.get(n), e[0])));
                }
            }
            Collections.sort(edges);
            Collections.sort(others);
            for (int other : others) {
                edges.add(-2 - other);
            }
            return edges;
        }

        int jointUp(int n, boolean second) {
            for (int[] e : nodes.get(n).edges) {
                if (n != 0 && e[0] >= FIRST_JOINT && across(nodes.get(n), e[0]) == nodes.get(up.get(n))) {
                    return second ? Math.max(e[1], e[2]) : Math.min(e[1], e[2]);
                }
            }
            return -1;
        }
    }
}
